/-! holds, shield, bound. -/
section RW9
variable {N : Nat} {a : Ab} {b : Nat × Nat} {μ0 μ μ' : Mem} {Q : Nat} {r : List Int64}
/-- the row alone has changed, the call goes on -/
theorem XI.row (h : XI N b a μ0 μ) (hr : r.length ≤ 16) (hw : XW r μ') (hf : rFr μ μ') : XI N b (aSetR a r) μ0 μ' := by
  obtain ⟨⟨w1, w2, w3, w4, w5, w6, w7⟩, ⟨p1, p2, p3, p4, p5, p6⟩, hQ, hI⟩ := h
  have hx : ∀ t j, t < 3 → j < 22 → μ'.1 (vSt t j) = μ.1 (vSt t j) := fun t j _ _ => hf.1 _ (by show 5 + 22 * t + j ≠ 4; omega)
  refine ⟨⟨w1, w2, w3, w4, w5, hr, w7⟩, ⟨p1.of (fun j hj _ _ _ _ _ => hx 0 j (by omega) hj), ⟨fun i hi => ?_, ?_, fun d hd => ?_⟩, ⟨?_, fun k hk => ?_⟩, hw, p5.of (by omega) (hf.1 _ (by decide)) (fun j hj => hx 1 j (by omega) hj), p6.of (by omega) (hf.1 _ (by decide)) (fun j hj => hx 2 j (by omega) hj)⟩, hQ.of (hx 0 3 (by omega) (by omega)) (fun v h1 h2 => hf.1 v (by show v ≠ 4; omega)) (fun v h1 h2 => hf.2.1 v (by show v ≠ 0; omega)) hf.2.2, hI.tr ⟨fun v hv => hf.1 v (by show v ≠ 4; omega), fun v hv => hf.2.1 v (by show v ≠ 0; omega)⟩⟩
  · rw [hx 0 5 (by omega) (by omega)]; exact p2.1 i hi
  · rw [hx 0 2 (by omega) (by omega)]; exact p2.2.1
  · rw [hx 0 6 (by omega) (by omega)]; exact p2.2.2 d hd
  · rw [hf.1 _ (by decide)]; exact p3.1
  · rw [hf.1 _ (by decide)]; exact p3.2 k hk
theorem MI.row (h : MI N Q a μ0 μ) (hr : r.length ≤ 16) (hw : MW r μ') (hf : mrFr μ μ') : MI N Q (aSetR a r) μ0 μ' := by
  have e : ∀ v, v ≠ 142 → μ'.1 v = μ.1 v := fun v hv => hf.1 v hv
  obtain ⟨⟨w1, w2, w3, w4, w5, w6, w7⟩, ⟨b, d, t, _, k⟩, q, h4, h5'⟩ := h
  exact ⟨⟨w1, w2, w3, w4, w5, hr, w7⟩, ⟨b.of (fun v hv => e v (by omega)), MDs.of (a := a) d (fun v hv => e v (by omega)), t.of (fun v hv => e v (by omega)), hw, k.of rfl rfl (fun v hv => e v (by omega))⟩, q.of (fun v hv => e v (by omega)), h4, h5'.tr ⟨fun v hv => e v (by omega), fun v hv => hf.2.1 v hv, hf.2.2⟩⟩
end RW9
def stH (S : SP) (s T : Nat) : Nat := wo (wo (2 ^ S.1 - 1) S.2.2.2) T ||| (s &&& S.2.2.2)
def lsH (S : SP) (s T : Nat) : Nat := T &&& nxt S (stH S s T)
def hF (S : SP) (s T : Nat) : Nat := wo T (lsH S s T)
theorem stH_lt {S : SP} {s T : Nat} (hs : s < 2 ^ S.1) : stH S s T < 2 ^ S.1 := or_lt (wo_lt (wo_lt (ev_lt _))) (and_lt hs)
theorem lsH_lt {S : SP} {s T : Nat} (hT : T < 2 ^ S.1) : lsH S s T < 2 ^ S.1 := and_lt hT
theorem hF_lt {S : SP} {s T : Nat} (hT : T < 2 ^ S.1) : hF S s T < 2 ^ S.1 := wo_lt hT
theorem wo_sub (x y : Nat) : sub (wo x y) x := fun j h => by
  rw [wo_tb, Bool.and_eq_true] at h
  exact h.1
theorem hF_fix {S : SP} {s T : Nat} (hp : S.1 ≤ 14) (hT : T < 2 ^ S.1) : hF S s (itF (hF S s) 15 T) = itF (hF S s) 15 T :=
  itF_fix (F := hF S s) (m := crd S.1) (P := fun T => T < 2 ^ S.1) (fun T h => hF_lt h) (fun T h => by
    by_cases e : hF S s T = T
    · exact Or.inl e
    · exact Or.inr (crd_lt h (wo_sub _ _) e)) 15 T hT (by have := crd_le S.1 T; omega)
theorem hF_0 {S : SP} {s T : Nat} : hF S s T = T ↔ lsH S s T = 0 := by
  constructor
  · intro h
    refine nat_ext fun j => ?_
    have := congrArg (fun z => z.testBit j) h
    simp only [hF, wo_tb] at this
    have h2 : (lsH S s T).testBit j = (T.testBit j && (nxt S (stH S s T)).testBit j) := Nat.testBit_and _ _ _
    rw [tb_0]
    cases e1 : T.testBit j with
    | false => rw [h2, e1]; rfl
    | true =>
      rw [e1] at this
      cases e2 : (lsH S s T).testBit j with
      | false => rfl
      | true => rw [e2] at this; exact absurd this (by decide)
  · intro h
    refine nat_ext fun j => ?_
    unfold hF
    rw [wo_tb, h, tb_0]
    simp
theorem itF_id {F : Nat → Nat} {T : Nat} (h : F T = T) : ∀ k, itF F k T = T
  | 0 => rfl
  | k + 1 => by rw [itF, h]; exact itF_id h k
theorem hold_iff {S : SP} {s T : Nat} (hp : S.1 ≤ 14) (hT : T < 2 ^ S.1) : itF (hF S s) 15 T = T ↔ lsH S s T = 0 := by
  constructor
  · intro h
    have := hF_fix (s := s) hp hT
    rw [h] at this
    exact hF_0.mp this
  · intro h
    exact itF_id (hF_0.mpr h) 15
theorem wld_mono {S : SP} {i s s' : Nat} (h : sub s s') (hw : wld S i s = true) : wld S i s' = true := by
  unfold wld at hw ⊢
  by_cases c : mvd S i = true
  · rw [if_pos c, decide_eq_true_iff] at hw ⊢
    have : hrd S i s ≤ hrd S i s' := sm_mono _ (fun o _ => Nat.mul_le_mul_right _ (bN_mono (h o)))
    omega
  · rw [if_neg c] at hw ⊢
    exact h i hw
theorem hold_great {S : SP} {s T0 U : Nat} (hU : sub U T0) (h0 : lsH S s U = 0) : ∀ k, sub U (itF (hF S s) k T0) := by
  intro k
  refine itF_P (F := hF S s) (P := fun T => sub U T) (fun T h j hj => ?_) k T0 hU
  unfold hF
  rw [wo_tb, h j hj]
  cases e : (lsH S s T).testBit j with
  | false => rfl
  | true =>
    unfold lsH at e
    rw [Nat.testBit_and, Bool.and_eq_true, nxt_tb2, Bool.and_eq_true] at e
    have hst : sub (stH S s T) (stH S s U) := fun i hi => by
      unfold stH at hi ⊢
      rw [Nat.testBit_or, Bool.or_eq_true] at hi ⊢
      rcases hi with hi | hi
      · left
        rw [wo_tb, Bool.and_eq_true] at hi ⊢
        refine ⟨hi.1, ?_⟩
        cases z : U.testBit i with
        | false => rfl
        | true => rw [h i z] at hi; exact absurd hi.2 (by decide)
      · exact Or.inr hi
    have h2 : (lsH S s U).testBit j = true := by
      unfold lsH
      rw [Nat.testBit_and, hj, nxt_tb2, e.2.1, wld_mono hst e.2.2]
      rfl
    rw [h0, tb_0] at h2
    exact absurd h2 (by decide)
/-- of the sets 1 .. n that P takes, the first of the smallest -/
def sdF (P : Nat → Bool) : Nat → Nat
  | 0 => 0
  | k + 1 => if P (k + 1) && (decide (sdF P k = 0) || decide (pcN (k + 1) < pcN (sdF P k))) then k + 1 else sdF P k
theorem sdF_le (P : Nat → Bool) : ∀ n, sdF P n ≤ n
  | 0 => Nat.le_refl _
  | k + 1 => by
    have := sdF_le P k
    rw [sdF]
    split <;> omega
theorem sdF_P (P : Nat → Bool) : ∀ n, sdF P n = 0 ∨ P (sdF P n) = true
  | 0 => Or.inl rfl
  | k + 1 => by
    rw [sdF]
    by_cases c : (P (k + 1) && (decide (sdF P k = 0) || decide (pcN (k + 1) < pcN (sdF P k)))) = true
    · rw [if_pos c]
      rw [Bool.and_eq_true] at c
      exact Or.inr c.1
    · rw [if_neg c]
      exact sdF_P P k
theorem sdF_ext {P P' : Nat → Bool} (h : ∀ k, P k = P' k) : ∀ n, sdF P n = sdF P' n
  | 0 => rfl
  | k + 1 => by rw [sdF, sdF, sdF_ext h k, h]
theorem sdF_stop {P : Nat → Bool} {n : Nat} (h : ∀ k, n < k → P k = false) : ∀ m, sdF P (n + m) = sdF P n
  | 0 => rfl
  | m + 1 => by
    rw [show n + (m + 1) = (n + m) + 1 by omega, sdF, h _ (by omega), Bool.false_and, if_neg (by decide)]
    exact sdF_stop h m
def pS (S : SP) (s L wt k : Nat) : Bool := decide (wo k L = 0) && (decide (wo wt k = 0) && decide (lsH S s k = 0))
theorem sub_le {x y : Nat} (h : sub x y) : x ≤ y := by
  have : x = x &&& y := nat_ext fun j => by
    rw [Nat.testBit_and]
    cases e : x.testBit j with
    | false => rfl
    | true => rw [h j e]; rfl
  rw [this]
  exact Nat.and_le_right
/-- where the greatest set that holds is left out, nothing is lost -/
theorem sh_eq {S : SP} {s T0 L wt : Nat} (hL : sub L T0) : sdF (pS S s L wt) L = sdF (pS S s (L &&& itF (hF S s) 15 T0) wt) (L &&& itF (hF S s) 15 T0) := by
  have hle : L &&& itF (hF S s) 15 T0 ≤ L := Nat.and_le_left
  have e1 : ∀ k, pS S s L wt k = pS S s (L &&& itF (hF S s) 15 T0) wt k := fun k => by
    unfold pS
    by_cases c3 : lsH S s k = 0
    · have : decide (wo k L = 0) = decide (wo k (L &&& itF (hF S s) 15 T0) = 0) := decide_eq_decide.mpr ⟨fun h => wo_0' (fun j hj => by
        rw [Nat.testBit_and, wo_0 h j hj, hold_great (sub_tr (wo_0 h) hL) c3 15 j hj]
        rfl), fun h => wo_0' (fun j hj => by
        have := wo_0 h j hj
        rw [Nat.testBit_and, Bool.and_eq_true] at this
        exact this.1)⟩
      rw [this]
    · rw [decide_eq_false c3, Bool.and_false, Bool.and_false, Bool.and_false]
  rw [sdF_ext e1]
  have := sdF_stop (P := pS S s (L &&& itF (hF S s) 15 T0) wt) (n := L &&& itF (hF S s) 15 T0) (fun k hk => by
    unfold pS
    rw [decide_eq_false, Bool.false_and]
    intro h
    have := sub_le (wo_0 h)
    omega) (L - (L &&& itF (hF S s) 15 T0))
  rw [show (L &&& itF (hF S s) 15 T0) + (L - (L &&& itF (hF S s) 15 T0)) = L by omega] at this
  exact this
section OPS
variable {N : Nat} {a : Ab} {b : Nat × Nat} {μ0 μ : Mem} {Q : Nat} {S : SP}
theorem x_lost {T : Nat} (hT : T < 2 ^ (aS a).1) (h : XI N b a μ0 μ) : ∃ μ', f_ta_lost (nI T) μ = some (nI (lsH (aS a) (aN a) T), μ') ∧ XI N b a μ0 μ' := by
  obtain ⟨μ1, l1, l2, _⟩ := h.after (s := stH (aS a) (aN a) T) (stH_lt (now_lt h.1))
  refine ⟨μ1, ?_, l2⟩
  have hf := h.2.1.1.2.2.2.1
  unfold f_ta_lost
  rw [st_everybody h.2.1.1, bd2_s, hf, i_wo, i_wo, bnd_s, st_now h.1 h.2.1, bd2_s, hf, i_and, i_or]
  rw [show wo (wo (2 ^ (aS a).1 - 1) (aS a).2.2.2) T ||| (aN a &&& (aS a).2.2.2) = stH (aS a) (aN a) T from rfl, l1, bd2_s, i_and]
  rfl
theorem x_great_lp : ∀ m k g T (μ : Mem), k + m = 15 → m < g → T < 2 ^ (aS a).1 → XI N b a μ0 μ → ∃ μ', f_ta_greatestHolding_b10 g (nI T) (nI k) μ = some (nI (itF (hF (aS a) (aN a)) m T), μ') ∧ XI N b a μ0 μ' := by
  intro m
  induction m with
  | zero =>
    intro k g T μ hk hg hT h
    obtain ⟨g, rfl⟩ : ∃ z, g = z + 1 := ⟨g - 1, by omega⟩
    refine ⟨μ, ?_, h⟩
    rw [f_ta_greatestHolding_b10, l_14, if_pos ((i_ltN (by omega) (by omega)).mpr (by omega))]
    rfl
  | succ m ih =>
    intro k g T μ hk hg hT h
    obtain ⟨g, rfl⟩ : ∃ z, g = z + 1 := ⟨g - 1, by omega⟩
    obtain ⟨μ1, l1, l2⟩ := x_lost hT h
    obtain ⟨μ', k1, k2⟩ := ih (k + 1) g (hF (aS a) (aN a) T) μ1 (by omega) (by omega) (hF_lt hT) l2
    refine ⟨μ', ?_, k2⟩
    rw [f_ta_greatestHolding_b10, l_14, if_neg (fun q => absurd ((i_ltN (by omega) (by omega)).mp q) (by omega)), l1, bd2_s, i_wo, l_1, i_add]
    exact k1
/-- the greatest set that holds -/
def grt (a : Ab) : Nat := itF (hF (aS a) (aN a)) 15 (opn a)
theorem grt_lt (a : Ab) : grt a < 2 ^ (aS a).1 := itF_P (F := hF (aS a) (aN a)) (P := fun T => T < 2 ^ (aS a).1) (fun T h => hF_lt h) 15 (opn a) (opn_lt a)
theorem x_great (h : XI N b a μ0 μ) : ∃ μ', f_ta_greatestHolding μ = some (nI (grt a), μ') ∧ XI N b a μ0 μ' := by
  unfold f_ta_greatestHolding
  rw [st_open h.1 h.2.1, bd2_s]
  exact x_great_lp 15 0 FU (opn a) μ (by omega) (by unfold FU; omega) (opn_lt a) h
def fwN (k : Nat) : Nat := if k = 0 then 15 else pcN k
theorem x_small_lp {L wt : Nat} (hL : L < 2 ^ (aS a).1) (hwt : wt < 2 ^ (aS a).1) : ∀ m k g (μ : Mem), k + m = L → m < g → XI N b a μ0 μ → ∃ μ', f_ta_smallestHolding_b9 g (nI L) (nI wt) (nI (sdF (pS (aS a) (aN a) L wt) k)) (nI (fwN (sdF (pS (aS a) (aN a) L wt) k))) (nI (k + 1)) μ = some (nI (sdF (pS (aS a) (aN a) L wt) L), μ') ∧ XI N b a μ0 μ' := by
  intro m
  induction m with
  | zero =>
    intro k g μ hk hg h
    obtain ⟨g, rfl⟩ : ∃ z, g = z + 1 := ⟨g - 1, by omega⟩
    have h14 := p2_14 h.1.1.1
    obtain rfl : k = L := by omega
    refine ⟨μ, ?_, h⟩
    rw [f_ta_smallestHolding_b9, if_pos ((i_ltN (by omega) (by omega)).mpr (by omega))]
  | succ m ih =>
    intro k g μ hk hg h
    obtain ⟨g, rfl⟩ : ∃ z, g = z + 1 := ⟨g - 1, by omega⟩
    have h14 := p2_14 h.1.1.1
    have hks : k + 1 < 2 ^ (aS a).1 := by omega
    have hp1 := pcN_le (k + 1)
    have hp2 : fwN (sdF (pS (aS a) (aN a) L wt) k) ≤ 15 := by
      unfold fwN
      have := pcN_le (sdF (pS (aS a) (aN a) L wt) k)
      split <;> omega
    have hfw : pcN (k + 1) < fwN (sdF (pS (aS a) (aN a) L wt) k) ↔ (decide (sdF (pS (aS a) (aN a) L wt) k = 0) || decide (pcN (k + 1) < pcN (sdF (pS (aS a) (aN a) L wt) k))) = true := by
      unfold fwN
      by_cases c : sdF (pS (aS a) (aN a) L wt) k = 0
      · rw [if_pos c, decide_eq_true c, Bool.true_or]; simp; omega
      · rw [if_neg c, decide_eq_false c, Bool.false_or, decide_eq_true_iff]
    have hw1 : wo (k + 1) L < 2 ^ (aS a).1 := wo_lt hks
    have hw2 : wo wt (k + 1) < 2 ^ (aS a).1 := wo_lt hwt
    have hw3 : lsH (aS a) (aN a) (k + 1) < 2 ^ (aS a).1 := lsH_lt hks
    have skip : (pS (aS a) (aN a) L wt (k + 1) && (decide (sdF (pS (aS a) (aN a) L wt) k = 0) || decide (pcN (k + 1) < pcN (sdF (pS (aS a) (aN a) L wt) k)))) = false → ∀ μ, XI N b a μ0 μ → ∃ μ', f_ta_smallestHolding_b9 g (nI L) (nI wt) (nI (sdF (pS (aS a) (aN a) L wt) k)) (nI (fwN (sdF (pS (aS a) (aN a) L wt) k))) (nI (k + 1) + 1) μ = some (nI (sdF (pS (aS a) (aN a) L wt) L), μ') ∧ XI N b a μ0 μ' := fun c μ h => by
      have e : sdF (pS (aS a) (aN a) L wt) (k + 1) = sdF (pS (aS a) (aN a) L wt) k := by rw [sdF, c, if_neg (by decide)]
      have := ih (k + 1) g μ (by omega) (by omega) h
      rw [e] at this
      rw [l_1, i_add]
      exact this
    rw [f_ta_smallestHolding_b9, if_neg (fun q => absurd ((i_ltN (by omega) (by omega)).mp q) (by omega)), jd_bc (by omega), bd2_s, i_wo, i_wo]
    by_cases c0 : pcN (k + 1) < fwN (sdF (pS (aS a) (aN a) L wt) k)
    · rw [if_neg (fun q => absurd ((i_leN (by omega) (by omega)).mp q) (by omega))]
      by_cases c1 : wo (k + 1) L = 0
      · rw [c1, if_pos (show nI 0 = 0 from rfl)]
        by_cases c2 : wo wt (k + 1) = 0
        · rw [c2, if_pos (show nI 0 = 0 from rfl)]
          obtain ⟨μ1, l1, l2⟩ := x_lost hks h
          rw [l1, bd2_s]
          by_cases c3 : lsH (aS a) (aN a) (k + 1) = 0
          · have e : sdF (pS (aS a) (aN a) L wt) (k + 1) = k + 1 := by
              rw [sdF, hfw.mp c0, if_pos]
              unfold pS
              rw [decide_eq_true c1, decide_eq_true c2, decide_eq_true c3]
              rfl
            have := ih (k + 1) g μ1 (by omega) (by omega) l2
            rw [e] at this
            rw [c3, if_pos (show nI 0 = 0 from rfl), l_1, i_add]
            have e2 : fwN (k + 1) = pcN (k + 1) := if_neg (by omega)
            rw [e2] at this
            exact this
          · rw [if_neg (nI_nz (by omega) c3)]
            exact skip (by unfold pS; rw [decide_eq_false c3]; simp) μ1 l2
        · rw [if_neg (nI_nz (by omega) c2)]
          exact skip (by unfold pS; rw [decide_eq_false c2]; simp) μ h
      · rw [if_neg (nI_nz (by omega) c1)]
        exact skip (by unfold pS; rw [decide_eq_false c1]; simp) μ h
    · rw [if_pos ((i_leN (by omega) (by omega)).mpr (by omega))]
      refine skip ?_ μ h
      cases z : (decide (sdF (pS (aS a) (aN a) L wt) k = 0) || decide (pcN (k + 1) < pcN (sdF (pS (aS a) (aN a) L wt) k))) with
      | false => rw [Bool.and_false]
      | true => exact absurd (hfw.mpr z) c0
theorem x_small {L wt : Nat} (hL : L < 2 ^ (aS a).1) (hwt : wt < 2 ^ (aS a).1) (h : XI N b a μ0 μ) : ∃ μ', f_ta_smallestHolding (nI L) (nI wt) μ = some (nI (sdF (pS (aS a) (aN a) L wt) L), μ') ∧ XI N b a μ0 μ' := by
  have h14 := p2_14 h.1.1.1
  exact x_small_lp hL hwt L 0 FU μ (by omega) (by unfold FU; omega) h
/-! the reference -/
theorem wo_wo (x y z : Nat) : wo (wo x y) z = wo x (y ||| z) := nat_ext fun j => by
  rw [wo_tb, wo_tb, wo_tb, Nat.testBit_or]
  cases x.testBit j <;> cases y.testBit j <;> cases z.testBit j <;> rfl
theorem wo_com (x y z : Nat) : wo (wo x y) z = wo (wo x z) y := by rw [wo_wo, wo_wo, Nat.or_comm]
theorem m_hold_in (h : MB S μ) (k4 : Int32 → Int32 → Mem → Option (Int32 × Mem)) {T st : Nat} (hT : T < 2 ^ S.1) (hst : st < 2 ^ S.1) : ∀ m i g, i + m = S.1 → m < g → f_m_holding_b45 k4 g (nI (wo T (bs (fun j => T.testBit j && wld S j st) i))) (nI T) (nI st) (nI i) μ = k4 (nI (wo T (bs (fun j => T.testBit j && wld S j st) S.1))) (nI T) μ := by
  have hp := h.2.2.2.2.1
  have h0 := h.1
  have hT' := p2_31 hp hT
  intro m
  induction m with
  | zero =>
    intro i g hi hg
    obtain ⟨g, rfl⟩ : ∃ z, g = z + 1 := ⟨g - 1, by omega⟩
    obtain rfl : i = S.1 := by omega
    rw [f_m_holding_b45, h0, if_pos ((i_leN (by omega) (by omega)).mpr (Nat.le_refl _))]
  | succ m ih =>
    intro i g hi hg
    obtain ⟨g, rfl⟩ : ∃ z, g = z + 1 := ⟨g - 1, by omega⟩
    have := ih (i + 1) g (by omega) (by omega)
    rw [bs] at this
    rw [f_m_holding_b45, h0, if_neg (fun q => absurd ((i_leN (by omega) (by omega)).mp q) (by omega)), m_has hT' (by omega), bd2_s]
    cases c1 : T.testBit i with
    | false =>
      rw [c1, Bool.false_and, if_neg (by decide), Nat.or_zero] at this
      rw [if_pos (by decide), l_1, i_add]
      exact this
    | true =>
      rw [if_neg (by decide), m_would h (by omega) hst, bd2_s]
      cases c2 : wld S i st with
      | false =>
        rw [c1, c2, Bool.true_and, if_neg (by decide), Nat.or_zero] at this
        rw [if_pos (by decide), l_1, i_add]
        exact this
      | true =>
        rw [c1, c2, Bool.true_and, if_pos rfl, ← wo_wo] at this
        rw [if_neg (by decide), i_one (by omega), i_wo, bnd_s, l_1, i_add]
        exact this
theorem hF_bs (S : SP) (s T : Nat) : wo T (bs (fun j => T.testBit j && wld S j (stH S s T)) S.1) = hF S s T := by
  unfold hF lsH
  refine nat_ext fun j => ?_
  rw [wo_tb, wo_tb, bs_tb, Nat.testBit_and, nxt_tb2]
  cases T.testBit j <;> cases wld S j (stH S s T) <;> cases decide (j < S.1) <;> rfl
theorem m_hold_lp (hW : WF a) (h : MB (aS a) μ) (hD : MDs a μ) : ∀ m n T (x : Int32), crd (aS a).1 T ≤ m → m + 1 < n → T < 2 ^ (aS a).1 → (nI T = x → hF (aS a) (aN a) T = T) → f_m_holding_b4 n (nI T) x μ = some (nI (itF (hF (aS a) (aN a)) 15 T), μ) := by
  have hp := h.2.2.2.2.1
  have h14 := p2_14 hp
  have hnow := now_lt hW
  have hf := h.2.2.2.1
  have step : ∀ n T (x : Int32), T < 2 ^ (aS a).1 → ¬ nI T = x → f_m_holding_b4 (n + 1) (nI T) x μ = f_m_holding_b4 n (nI (hF (aS a) (aN a) T)) (nI T) μ := fun n T x hT hx => by
    have hi := m_hold_in h (f_m_holding_b4 n) (T := T) (st := stH (aS a) (aN a) T) hT (stH_lt hnow) (aS a).1 0 FU (by omega) (by unfold FU; omega)
    rw [hF_bs] at hi
    rw [f_m_holding_b4, if_neg hx, m_everybody h, bd2_s, m_now hW hD, bd2_s, hf, i_wo, i_wo, i_and, i_or, bnd_s, wo_com]
    rw [← hi]
    have e0 : wo T (bs (fun j => T.testBit j && wld (aS a) j (stH (aS a) (aN a) T)) 0) = T := by
      refine nat_ext fun j => ?_
      rw [wo_tb, bs_tb, decide_eq_false (by omega)]
      simp
    rw [e0]
    rfl
  have shift : ∀ T, T < 2 ^ (aS a).1 → itF (hF (aS a) (aN a)) 15 (hF (aS a) (aN a) T) = itF (hF (aS a) (aN a)) 15 T := fun T hT => by
    have e1 : itF (hF (aS a) (aN a)) 16 T = itF (hF (aS a) (aN a)) 15 (hF (aS a) (aN a) T) := rfl
    rw [← e1, itF_s]
    exact hF_fix hp hT
  intro m
  induction m with
  | zero =>
    intro n T x hm hn hT hx
    obtain ⟨n, rfl⟩ : ∃ z, n = z + 2 := ⟨n - 2, by omega⟩
    by_cases c : nI T = x
    · rw [f_m_holding_b4, if_pos c, itF_id (hx c)]
    · have hfx : hF (aS a) (aN a) T = T := by
        refine Classical.byContradiction fun q => ?_
        have := crd_lt hT (wo_sub T (lsH (aS a) (aN a) T)) q
        omega
      rw [step (n + 1) T x hT c, hfx, f_m_holding_b4, if_pos rfl, itF_id hfx]
  | succ m ih =>
    intro n T x hm hn hT hx
    obtain ⟨n, rfl⟩ : ∃ z, n = z + 1 := ⟨n - 1, by omega⟩
    by_cases c : nI T = x
    · rw [f_m_holding_b4, if_pos c, itF_id (hx c)]
    · rw [step n T x hT c]
      by_cases hfx : hF (aS a) (aN a) T = T
      · obtain ⟨n, rfl⟩ : ∃ z, n = z + 1 := ⟨n - 1, by omega⟩
        rw [hfx, f_m_holding_b4, if_pos rfl, itF_id hfx]
      · have h1 := crd_lt hT (wo_sub T (lsH (aS a) (aN a) T)) hfx
        have h2 : crd (aS a).1 (hF (aS a) (aN a) T) < crd (aS a).1 T := h1
        have hl := hF_lt (s := aN a) hT
        rw [← shift T hT]
        exact ih n _ _ (by omega) (by omega) hl (fun q => absurd (nI_inj (by omega) (by omega) q) hfx)
theorem m_hold (hW : WF a) (h : MB (aS a) μ) (hD : MDs a μ) {T : Nat} (hT : T < 2 ^ (aS a).1) : f_m_holding (nI T) μ = some (nI (itF (hF (aS a) (aN a)) 15 T), μ) := by
  have h14 := p2_14 h.2.2.2.2.1
  have hc := crd_le (aS a).1 T
  have hp := h.2.2.2.2.1
  exact m_hold_lp hW h hD 14 FU T (-1) (by omega) (by unfold FU; omega) hT (fun q => absurd q (nI_ne_m1 (by omega)))
theorem m_shield_lp (hW : WF a) (h : MB (aS a) μ) (hD : MDs a μ) {L wt : Nat} {x : Int32} (hL : L < 2 ^ (aS a).1) (hx : (x = -1 ∧ wt = 0) ∨ ∃ i, i < (aS a).1 ∧ x = nI i ∧ wt = 2 ^ i) : ∀ m k g, k + m = L → m < g → f_m_shieldOf_b5 g (nI L) x (nI (sdF (pS (aS a) (aN a) L wt) k)) (nI (k + 1)) μ = some (nI (sdF (pS (aS a) (aN a) L wt) L), μ) := by
  have hp := h.2.2.2.2.1
  have h14 := p2_14 hp
  intro m
  induction m with
  | zero =>
    intro k g hk hg
    obtain ⟨g, rfl⟩ : ∃ z, g = z + 1 := ⟨g - 1, by omega⟩
    obtain rfl : k = L := by omega
    rw [f_m_shieldOf_b5, if_pos ((i_ltN (by omega) (by omega)).mpr (by omega))]
  | succ m ih =>
    intro k g hk hg
    obtain ⟨g, rfl⟩ : ∃ z, g = z + 1 := ⟨g - 1, by omega⟩
    have hks : k + 1 < 2 ^ (aS a).1 := by omega
    have hp1 := pcN_le (k + 1)
    have hp2 := pcN_le (sdF (pS (aS a) (aN a) L wt) k)
    have hsl := sdF_le (pS (aS a) (aN a) L wt) k
    have hw1 : wo (k + 1) L < 2 ^ (aS a).1 := wo_lt hks
    have next := ih (k + 1) g (by omega) (by omega)
    have skip : (pS (aS a) (aN a) L wt (k + 1) && (decide (sdF (pS (aS a) (aN a) L wt) k = 0) || decide (pcN (k + 1) < pcN (sdF (pS (aS a) (aN a) L wt) k)))) = false → f_m_shieldOf_b5 g (nI L) x (nI (sdF (pS (aS a) (aN a) L wt) k)) (nI (k + 1) + 1) μ = some (nI (sdF (pS (aS a) (aN a) L wt) L), μ) := fun c => by
      have e : sdF (pS (aS a) (aN a) L wt) (k + 1) = sdF (pS (aS a) (aN a) L wt) k := by rw [sdF, c, if_neg (by decide)]
      rw [e] at next
      rw [l_1, i_add]
      exact next
    rw [f_m_shieldOf_b5, if_neg (fun q => absurd ((i_ltN (by omega) (by omega)).mp q) (by omega)), i_wo]
    by_cases c1 : wo (k + 1) L = 0
    · have e56 : wo wt (k + 1) = 0 → (decide (sdF (pS (aS a) (aN a) L wt) k = 0) || decide (pcN (k + 1) < pcN (sdF (pS (aS a) (aN a) L wt) k))) = true → f_m_shieldOf_b56 (f_m_shieldOf_b5 g) (nI L) x (nI (sdF (pS (aS a) (aN a) L wt) k)) (nI (k + 1)) μ = some (nI (sdF (pS (aS a) (aN a) L wt) L), μ) := fun c2 c0 => by
        have hil : itF (hF (aS a) (aN a)) 15 (k + 1) < 2 ^ (aS a).1 := itF_P (F := hF (aS a) (aN a)) (P := fun T => T < 2 ^ (aS a).1) (fun T h => hF_lt h) 15 (k + 1) hks
        unfold f_m_shieldOf_b56
        rw [m_hold hW h hD hks, bd2_s]
        by_cases c3 : lsH (aS a) (aN a) (k + 1) = 0
        · have e : sdF (pS (aS a) (aN a) L wt) (k + 1) = k + 1 := by
            rw [sdF, c0, if_pos]
            unfold pS
            rw [decide_eq_true c1, decide_eq_true c2, decide_eq_true c3]
            rfl
          rw [e] at next
          rw [if_pos (by rw [(hold_iff hp hks).mpr c3]), l_1, i_add]
          exact next
        · rw [if_neg (fun q => c3 ((hold_iff hp hks).mp (nI_inj (by omega) (by omega) q)))]
          exact skip (by unfold pS; rw [decide_eq_false c3]; simp)
      have e37 : wo wt (k + 1) = 0 → f_m_shieldOf_b37 (f_m_shieldOf_b5 g) (nI L) x (nI (sdF (pS (aS a) (aN a) L wt) k)) (nI (k + 1)) μ = some (nI (sdF (pS (aS a) (aN a) L wt) L), μ) := fun c2 => by
        unfold f_m_shieldOf_b37
        by_cases c0 : sdF (pS (aS a) (aN a) L wt) k = 0
        · rw [c0] at e56 ⊢
          rw [if_pos (show nI 0 = 0 from rfl)]
          exact e56 c2 (by rw [decide_eq_true rfl]; rfl)
        · rw [if_neg (nI_nz (by omega) c0), jd_bc (by omega), bd2_s, jd_bc (by omega), bd2_s]
          by_cases c4 : pcN (k + 1) < pcN (sdF (pS (aS a) (aN a) L wt) k)
          · rw [if_pos ((i_ltN (by omega) (by omega)).mpr c4)]
            exact e56 c2 (by rw [decide_eq_true c4, Bool.or_true])
          · rw [if_neg (fun q => c4 ((i_ltN (by omega) (by omega)).mp q))]
            exact skip (by rw [decide_eq_false c4, decide_eq_false c0]; simp)
      rw [c1, if_pos (show nI 0 = 0 from rfl)]
      rcases hx with ⟨rfl, hw0⟩ | ⟨i, hi, rfl, hw0⟩
      · rw [if_pos rfl]
        exact e37 (by rw [hw0]; exact wo_0' (fun j q => by rw [tb_0] at q; exact absurd q (by decide)))
      · rw [if_neg (nI_ne_m1 (by omega)), m_has (by omega) (by omega), bd2_s]
        cases c2 : (k + 1).testBit i with
        | true =>
          rw [if_neg (by decide)]
          exact e37 (by rw [hw0]; exact wo_0' (fun j q => by rw [tb_p2, decide_eq_true_iff] at q; rw [← q]; exact c2))
        | false =>
          rw [if_pos (by decide)]
          refine skip ?_
          unfold pS
          rw [decide_eq_false (show ¬ wo wt (k + 1) = 0 from fun q => by
            have := wo_0 q i (by rw [hw0, tb_p2]; simp)
            rw [c2] at this
            exact absurd this (by decide))]
          simp
    · rw [if_neg (nI_nz (by omega) c1)]
      exact skip (by unfold pS; rw [decide_eq_false c1]; simp)
theorem m_shieldOf (hW : WF a) (h : MB (aS a) μ) (hD : MDs a μ) {L wt : Nat} {x : Int32} (hL : L < 2 ^ (aS a).1) (hx : (x = -1 ∧ wt = 0) ∨ ∃ i, i < (aS a).1 ∧ x = nI i ∧ wt = 2 ^ i) : f_m_shieldOf (nI L) x μ = some (nI (sdF (pS (aS a) (aN a) L wt) L), μ) := by
  have h14 := p2_14 h.2.2.2.2.1
  exact m_shield_lp hW h hD hL hx L 0 FU (by omega) (by unfold FU; omega)
theorem op_holds : OpI N a f_x_holds f_m_holds := by
  intro hW hN
  have h14 := p2_14 hW.1.1
  have hg := grt_lt a
  refine ⟨nI (pcN (grt a)), aSetR a [(nI (grt a)).toInt64], fun μ h => ?_, fun ν h => m_start h fun Q ν1 hQ hI _ => ?_⟩
  · obtain ⟨μ1, k1, k2⟩ := x_great h.XI
    obtain ⟨μ2, a1, a2, a3⟩ := rw_only (nI (grt a)).toInt64 μ1
    refine ⟨μ2, ?_, k2.told hN (by simp) a2 a3⟩
    unfold f_x_holds
    rw [k1, bd2_s, a1, bd1_s, jd_bc (by omega), bd2_s]
  · obtain ⟨c1, c2⟩ := m_clear ν1
    obtain ⟨μ1, a1, a2, a3⟩ := m_tell (nI (grt a)).toInt64 c1 (by simp)
    refine ⟨μ1, ?_, hI.told hN (by simp) a2 (c2.tr a3)⟩
    rw [m_open hI.1 hI.2.1.1 hI.2.1.2.1, bd2_s, m_hold hI.1 hI.2.1.1 hI.2.1.2.1 (opn_lt a), bd2_s, bnd_s, show itF (hF (aS a) (aN a)) 15 (opn a) = grt a from rfl, a1, bd1_s, jd_bc (by omega), bd2_s]
theorem sh_open (a : Ab) (wt : Nat) : sdF (pS (aS a) (aN a) (opn a) wt) (opn a) = sdF (pS (aS a) (aN a) (grt a) wt) (grt a) := by
  have h := sh_eq (S := aS a) (s := aN a) (wt := wt) (sub_rf (opn a))
  have e : opn a &&& itF (hF (aS a) (aN a)) 15 (opn a) = grt a := nat_ext fun j => by
    have hs : sub (grt a) (opn a) := itF_P (F := hF (aS a) (aN a)) (P := fun T => sub T (opn a)) (fun T h => sub_tr (wo_sub _ _) h) 15 (opn a) (sub_rf _)
    show (opn a &&& grt a).testBit j = (grt a).testBit j
    rw [Nat.testBit_and]
    cases e : (grt a).testBit j with
    | false => rw [Bool.and_false]
    | true => rw [hs j e]; rfl
  rw [e] at h
  exact h
theorem op_shield (x : Int32) : OpI N a (f_x_shield x) (f_m_shield x) := by
  intro hW hN
  have h14 := p2_14 hW.1.1
  have hp := hW.1.1
  have hg := grt_lt a
  rcases i_casesQ x with hx | ⟨n, hn, rfl⟩
  · refine ⟨-1, a, fun μ h => x_same h hN ?_, fun ν h => m_start h fun Q ν1 _ hI _ => m_same hI hN ?_⟩
    · unfold f_x_shield
      rw [st_hasG hx, bd2_s, if_pos (by decide)]
    · rw [m_isOneG hx, bd2_s, if_pos (by decide)]
  by_cases hd : n < (aS a).1
  · have hpn : 2 ^ n < 2 ^ (aS a).1 := Nat.pow_lt_pow_right (by omega) hd
    have hsl := sdF_le (pS (aS a) (aN a) (grt a) (2 ^ n)) (grt a)
    have hx0 : ∀ μ, XR N a μ → ∃ μ1, XI N (4 * N, 0) a μ μ1 ∧ f_x_shield (nI n) μ = if nI (sdF (pS (aS a) (aN a) (grt a) (2 ^ n)) (grt a)) = 0 then some (-2, μ1) else (bd1 (f_rw_only (nI (sdF (pS (aS a) (aN a) (grt a) (2 ^ n)) (grt a))).toInt64 μ1) fun μ12 => bd2 (f_jd_bitCount (nI (sdF (pS (aS a) (aN a) (grt a) (2 ^ n)) (grt a))) μ12) fun v16 μ14 => some (v16, μ14)) := fun μ h => by
      obtain ⟨μ1, k1, k2⟩ := x_great h.XI
      obtain ⟨μ2, l1, l2⟩ := x_small hg hpn k2
      refine ⟨μ2, l2, ?_⟩
      unfold f_x_shield
      rw [st_has h.2.1.1 hn, bd2_s, decide_eq_true hd, if_neg (show ¬ nI (bN true) = 0 by decide), k1, bd2_s, i_one (by omega), l1, bd2_s]
    have hm0 : ∀ Q ν ν1, MI N Q a ν ν1 → f_m_shieldOf (nI (opn a)) (nI n) ν1 = some (nI (sdF (pS (aS a) (aN a) (grt a) (2 ^ n)) (grt a)), ν1) := fun Q ν ν1 hI => by
      rw [m_shieldOf hI.1 hI.2.1.1 hI.2.1.2.1 (wt := 2 ^ n) (opn_lt a) (Or.inr ⟨n, hd, rfl, rfl⟩), sh_open]
    by_cases c : sdF (pS (aS a) (aN a) (grt a) (2 ^ n)) (grt a) = 0
    · refine ⟨-2, a, fun μ h => ?_, fun ν h => m_start h fun Q ν1 _ hI _ => m_same hI hN ?_⟩
      · obtain ⟨μ1, k1, k2⟩ := hx0 μ h
        exact ⟨μ1, by rw [k2, c, if_pos (show nI 0 = 0 from rfl)], k1.done hN⟩
      · rw [m_isOne hI.2.1.1 hn, bd2_s, decide_eq_true hd, if_neg (show ¬ nI (bN true) = 0 by decide), m_open hI.1 hI.2.1.1 hI.2.1.2.1, bd2_s, hm0 Q ν ν1 hI, bd2_s, c, if_pos (show nI 0 = 0 from rfl)]
    · refine ⟨nI (pcN (sdF (pS (aS a) (aN a) (grt a) (2 ^ n)) (grt a))), aSetR a [(nI (sdF (pS (aS a) (aN a) (grt a) (2 ^ n)) (grt a))).toInt64], fun μ h => ?_, fun ν h => m_start h fun Q ν1 _ hI _ => ?_⟩
      · obtain ⟨μ1, k1, k2⟩ := hx0 μ h
        obtain ⟨μ2, a1, a2, a3⟩ := rw_only (nI (sdF (pS (aS a) (aN a) (grt a) (2 ^ n)) (grt a))).toInt64 μ1
        exact ⟨μ2, by rw [k2, if_neg (nI_nz (by omega) c), a1, bd1_s, jd_bc (by omega), bd2_s], k1.told hN (by simp) a2 a3⟩
      · obtain ⟨c1, c2⟩ := m_clear ν1
        obtain ⟨μ1, a1, a2, a3⟩ := m_tell (nI (sdF (pS (aS a) (aN a) (grt a) (2 ^ n)) (grt a))).toInt64 c1 (by simp)
        refine ⟨μ1, ?_, hI.told hN (by simp) a2 (c2.tr a3)⟩
        rw [m_isOne hI.2.1.1 hn, bd2_s, decide_eq_true hd, if_neg (show ¬ nI (bN true) = 0 by decide), m_open hI.1 hI.2.1.1 hI.2.1.2.1, bd2_s, hm0 Q ν ν1 hI, bd2_s, if_neg (nI_nz (by omega) c), bnd_s, a1, bd1_s, jd_bc (by omega), bd2_s]
  · refine ⟨-1, a, fun μ h => x_same h hN ?_, fun ν h => m_start h fun Q ν1 _ hI _ => m_same hI hN ?_⟩
    · unfold f_x_shield
      rw [st_has h.2.1.1 hn, bd2_s, decide_eq_false hd, if_pos (by decide)]
    · rw [m_isOne hI.2.1.1 hn, bd2_s, decide_eq_false hd, if_pos (by decide)]
/-- the sets, one behind the other -/
def bdL (S : SP) (s : Nat) : Nat → Nat → List Nat
  | 0, _ => []
  | m + 1, L => if sdF (pS S s L 0) L = 0 then [] else sdF (pS S s L 0) L :: bdL S s m (wo L (sdF (pS S s L 0) L))
def rwN (l : List Nat) : List Int64 := l.map (fun v => (nI v).toInt64)
theorem and0_crd {p T : Nat} (hT : T < 2 ^ p) (h : crd p T ≤ 0) : T = 0 := by
  refine Classical.byContradiction fun q => ?_
  have := crd_lt hT (A := 0) (fun j z => by rw [tb_0] at z; exact absurd z (by decide)) (fun z => q z.symm)
  omega
theorem wo_and (L b G : Nat) : wo (L &&& G) b = wo L b &&& G := nat_ext fun j => by
  rw [wo_tb, Nat.testBit_and, Nat.testBit_and, wo_tb]
  cases L.testBit j <;> cases b.testBit j <;> cases G.testBit j <;> rfl
theorem bd_step (a : Ab) {L : Nat} (hL : sub L (opn a)) (hLl : L < 2 ^ (aS a).1) (hb : sdF (pS (aS a) (aN a) L 0) L ≠ 0) : crd (aS a).1 (wo L (sdF (pS (aS a) (aN a) L 0) L) &&& grt a) < crd (aS a).1 (L &&& grt a) := by
  have e := sh_eq (S := aS a) (s := aN a) (wt := 0) hL
  rw [show itF (hF (aS a) (aN a)) 15 (opn a) = grt a from rfl] at e
  rw [← wo_and]
  refine crd_lt (and_lt hLl) (wo_sub _ _) (fun q => ?_)
  have hsub : sub (sdF (pS (aS a) (aN a) L 0) L) (L &&& grt a) := by
    rcases sdF_P (pS (aS a) (aN a) (L &&& grt a) 0) (L &&& grt a) with z | z
    · rw [← e] at z; exact absurd z hb
    · rw [← e] at z
      unfold pS at z
      rw [Bool.and_eq_true, decide_eq_true_iff] at z
      exact wo_0 z.1
  obtain ⟨j, hj⟩ := Nat.exists_testBit_of_ne_zero hb
  have h1 := hsub j hj
  rw [← q, wo_tb, hj] at h1
  simp at h1
theorem x_bound_lp : ∀ m k g L r a (μ : Mem), k + m = 14 → m < g → r.length = k → sub L (opn a) → L < 2 ^ (aS a).1 → crd (aS a).1 (L &&& grt a) ≤ m → aR a = r → XI N b a μ0 μ → ∃ μ', f_ta_holdApart_b14 g (nI (L &&& grt a)) (nI k) μ = some (nI (k + (bdL (aS a) (aN a) m L).length), μ') ∧ XI N b (aSetR a (r ++ rwN (bdL (aS a) (aN a) m L))) μ0 μ' := by
  intro m
  induction m with
  | zero =>
    intro k g L r a μ hk hg hr hL hLl hc ha h
    obtain ⟨g, rfl⟩ : ∃ z, g = z + 1 := ⟨g - 1, by omega⟩
    obtain rfl : k = 14 := by omega
    refine ⟨μ, ?_, ?_⟩
    · rw [f_ta_holdApart_b14, l_14, if_pos ((i_leN (by omega) (by omega)).mpr (Nat.le_refl _))]
      rfl
    · show XI N b (aSetR a (r ++ [])) μ0 μ
      rw [List.append_nil, ← ha]
      exact h
  | succ m ih =>
    intro k g L r a μ hk hg hr hL hLl hc ha h
    obtain ⟨g, rfl⟩ : ∃ z, g = z + 1 := ⟨g - 1, by omega⟩
    have h14 := p2_14 h.1.1.1
    have hlg : L &&& grt a < 2 ^ (aS a).1 := and_lt hLl
    have e := sh_eq (S := aS a) (s := aN a) (wt := 0) hL
    rw [show itF (hF (aS a) (aN a)) 15 (opn a) = grt a from rfl] at e
    have hsl := sdF_le (pS (aS a) (aN a) L 0) L
    rw [f_ta_holdApart_b14, l_14, if_neg (fun q => absurd ((i_leN (by omega) (by omega)).mp q) (by omega)), bdL]
    have stop : ∀ μ, XI N b a μ0 μ → XI N b (aSetR a (r ++ rwN [])) μ0 μ := fun μ h => by
      show XI N b (aSetR a (r ++ [])) μ0 μ
      rw [List.append_nil, ← ha]
      exact h
    by_cases c0 : L &&& grt a = 0
    · have c1 : sdF (pS (aS a) (aN a) L 0) L = 0 := by rw [e, c0]; rfl
      rw [c1, if_pos rfl]
      refine ⟨μ, ?_, stop μ h⟩
      rw [c0, if_pos (show nI 0 = 0 from rfl)]
      rfl
    · obtain ⟨μ1, l1, l2⟩ := x_small hlg (wt := 0) (Nat.two_pow_pos _) h
      rw [← e] at l1
      rw [if_neg (nI_nz (by omega) c0), l_0, l1, bd2_s]
      by_cases c1 : sdF (pS (aS a) (aN a) L 0) L = 0
      · rw [c1, if_pos rfl, if_pos rfl]
        exact ⟨μ1, rfl, stop μ1 l2⟩
      · obtain ⟨μ2, a1, a2, a3⟩ := rw_add (nI (sdF (pS (aS a) (aN a) L 0) L)).toInt64 (ha ▸ l2.2.1.2.2.2.1) (by omega)
        have hx := l2.row (r := r ++ [(nI (sdF (pS (aS a) (aN a) L 0) L)).toInt64]) (by rw [List.length_append, List.length_singleton]; omega) a2 a3
        have hst := bd_step a hL hLl c1
        have hcm : crd (aS a).1 (wo L (sdF (pS (aS a) (aN a) L 0) L) &&& grt a) ≤ m := by omega
        obtain ⟨μ', k1, k2⟩ := ih (k + 1) g (wo L (sdF (pS (aS a) (aN a) L 0) L)) (r ++ [(nI (sdF (pS (aS a) (aN a) L 0) L)).toInt64]) (aSetR a (r ++ [(nI (sdF (pS (aS a) (aN a) L 0) L)).toInt64])) μ2 (by omega) (by omega) (by rw [List.length_append, List.length_singleton, hr]) (sub_tr (wo_sub _ _) hL) (wo_lt hLl) hcm rfl hx
        rw [if_neg (show ¬ nI (sdF (pS (aS a) (aN a) L 0) L) = nI 0 from nI_nz (by omega) c1), if_neg c1]
        refine ⟨μ', ?_, ?_⟩
        · rw [a1, bd1_s, i_wo, bnd_s, wo_and, l_1, i_add, List.length_cons]
          rw [show k + ((bdL (aS a) (aN a) m (wo L (sdF (pS (aS a) (aN a) L 0) L))).length + 1) = k + 1 + (bdL (aS a) (aN a) m (wo L (sdF (pS (aS a) (aN a) L 0) L))).length by omega]
          exact k1
        · show XI N b (aSetR a (r ++ ((nI (sdF (pS (aS a) (aN a) L 0) L)).toInt64 :: rwN (bdL (aS a) (aN a) m (wo L (sdF (pS (aS a) (aN a) L 0) L)))))) μ0 μ'
          rw [show r ++ ((nI (sdF (pS (aS a) (aN a) L 0) L)).toInt64 :: rwN (bdL (aS a) (aN a) m (wo L (sdF (pS (aS a) (aN a) L 0) L)))) = (r ++ [(nI (sdF (pS (aS a) (aN a) L 0) L)).toInt64]) ++ rwN (bdL (aS a) (aN a) m (wo L (sdF (pS (aS a) (aN a) L 0) L))) by rw [List.append_assoc]; rfl]
          exact k2
theorem m_bound_lp : ∀ m k g L r a (μ : Mem), k + m = 14 → m + 1 < g → r.length = k → sub L (opn a) → L < 2 ^ (aS a).1 → crd (aS a).1 (L &&& grt a) ≤ m → aR a = r → MI N Q a μ0 μ → ∃ μ', f_m_bound_b24 g (nI L) (nI k) (nI (sdF (pS (aS a) (aN a) L 0) L)) μ = some (nI (k + (bdL (aS a) (aN a) m L).length), μ') ∧ MI N Q (aSetR a (r ++ rwN (bdL (aS a) (aN a) m L))) μ0 μ' := by
  intro m
  induction m with
  | zero =>
    intro k g L r a μ hk hg hr hL hLl hc ha h
    obtain ⟨g, rfl⟩ : ∃ z, g = z + 1 := ⟨g - 1, by omega⟩
    have hlg : L &&& grt a < 2 ^ (aS a).1 := and_lt hLl
    have e := sh_eq (S := aS a) (s := aN a) (wt := 0) hL
    rw [show itF (hF (aS a) (aN a)) 15 (opn a) = grt a from rfl, and0_crd hlg hc] at e
    refine ⟨μ, ?_, ?_⟩
    · rw [f_m_bound_b24, e, if_pos (show nI (sdF _ 0) = 0 from rfl)]
      rfl
    · show MI N Q (aSetR a (r ++ [])) μ0 μ
      rw [List.append_nil, ← ha]
      exact h
  | succ m ih =>
    intro k g L r a μ hk hg hr hL hLl hc ha h
    obtain ⟨g, rfl⟩ : ∃ z, g = z + 1 := ⟨g - 1, by omega⟩
    have h14 := p2_14 h.1.1.1
    have hsl := sdF_le (pS (aS a) (aN a) L 0) L
    rw [f_m_bound_b24, bdL]
    by_cases c1 : sdF (pS (aS a) (aN a) L 0) L = 0
    · rw [c1, if_pos (show nI 0 = 0 from rfl), if_pos rfl]
      refine ⟨μ, rfl, ?_⟩
      show MI N Q (aSetR a (r ++ [])) μ0 μ
      rw [List.append_nil, ← ha]
      exact h
    · obtain ⟨μ2, a1, a2, a3⟩ := m_tell (nI (sdF (pS (aS a) (aN a) L 0) L)).toInt64 (ha ▸ h.2.1.2.2.2.1) (by omega)
      have hx := h.row (r := r ++ [(nI (sdF (pS (aS a) (aN a) L 0) L)).toInt64]) (by rw [List.length_append, List.length_singleton]; omega) a2 a3
      have hst := bd_step a hL hLl c1
      have hcm : crd (aS a).1 (wo L (sdF (pS (aS a) (aN a) L 0) L) &&& grt a) ≤ m := by omega
      obtain ⟨μ', k1, k2⟩ := ih (k + 1) g (wo L (sdF (pS (aS a) (aN a) L 0) L)) (r ++ [(nI (sdF (pS (aS a) (aN a) L 0) L)).toInt64]) (aSetR a (r ++ [(nI (sdF (pS (aS a) (aN a) L 0) L)).toInt64])) μ2 (by omega) (by omega) (by rw [List.length_append, List.length_singleton, hr]) (sub_tr (wo_sub _ _) hL) (wo_lt hLl) hcm rfl hx
      have hsh : f_m_shieldOf (nI (wo L (sdF (pS (aS a) (aN a) L 0) L))) (-1) μ2 = some (nI (sdF (pS (aS a) (aN a) (wo L (sdF (pS (aS a) (aN a) L 0) L)) 0) (wo L (sdF (pS (aS a) (aN a) L 0) L))), μ2) := m_shieldOf hx.1 hx.2.1.1 hx.2.1.2.1 (wo_lt hLl) (Or.inl ⟨rfl, rfl⟩)
      rw [if_neg (nI_nz (by omega) c1), if_neg c1]
      refine ⟨μ', ?_, ?_⟩
      · rw [a1, bd1_s, i_wo, hsh, bd2_s, l_1, i_add, List.length_cons]
        rw [show k + ((bdL (aS a) (aN a) m (wo L (sdF (pS (aS a) (aN a) L 0) L))).length + 1) = k + 1 + (bdL (aS a) (aN a) m (wo L (sdF (pS (aS a) (aN a) L 0) L))).length by omega]
        exact k1
      · show MI N Q (aSetR a (r ++ ((nI (sdF (pS (aS a) (aN a) L 0) L)).toInt64 :: rwN (bdL (aS a) (aN a) m (wo L (sdF (pS (aS a) (aN a) L 0) L)))))) μ0 μ'
        rw [show r ++ ((nI (sdF (pS (aS a) (aN a) L 0) L)).toInt64 :: rwN (bdL (aS a) (aN a) m (wo L (sdF (pS (aS a) (aN a) L 0) L)))) = (r ++ [(nI (sdF (pS (aS a) (aN a) L 0) L)).toInt64]) ++ rwN (bdL (aS a) (aN a) m (wo L (sdF (pS (aS a) (aN a) L 0) L))) by rw [List.append_assoc]; rfl]
        exact k2
theorem grt_and (a : Ab) : opn a &&& grt a = grt a := nat_ext fun j => by
  have hs : sub (grt a) (opn a) := itF_P (F := hF (aS a) (aN a)) (P := fun T => sub T (opn a)) (fun T h => sub_tr (wo_sub _ _) h) 15 (opn a) (sub_rf _)
  rw [Nat.testBit_and]
  cases e : (grt a).testBit j with
  | false => rw [Bool.and_false]
  | true => rw [hs j e]; rfl
theorem op_bound : OpI N a f_x_bound f_m_bound := by
  intro hW hN
  have h14 := p2_14 hW.1.1
  have hp := hW.1.1
  have hc := crd_le (aS a).1 (opn a &&& grt a)
  have hc14 : crd (aS a).1 (opn a &&& grt a) ≤ 14 := by omega
  refine ⟨nI (0 + (bdL (aS a) (aN a) 14 (opn a)).length), aSetR a ([] ++ rwN (bdL (aS a) (aN a) 14 (opn a))), fun μ h => ?_, fun ν h => m_start h fun Q ν1 hQ hI _ => ?_⟩
  · obtain ⟨μ1, a1, a2, a3⟩ := rw_clear μ
    have hx := h.XI.row (r := []) (by simp) a2 a3
    obtain ⟨μ2, k1, k2⟩ := x_great hx
    obtain ⟨μ3, l1, l2⟩ := x_bound_lp 14 0 FU (opn a) [] (aSetR a []) μ2 (by omega) (by unfold FU; omega) rfl (sub_rf _) (opn_lt a) hc14 rfl k2
    refine ⟨μ3, ?_, l2.done hN⟩
    unfold f_x_bound f_ta_holdApart
    have k1' : f_ta_greatestHolding μ1 = some (nI (grt a), μ2) := k1
    have l1' : f_ta_holdApart_b14 FU (nI (opn a &&& grt a)) (nI 0) μ2 = some (nI (0 + (bdL (aS a) (aN a) 14 (opn a)).length), μ3) := l1
    rw [grt_and] at l1'
    rw [a1, bd1_s, k1', bd2_s, l_0, l1', bd2_s]
  · obtain ⟨c1, c2⟩ := m_clear ν1
    have hx := hI.row (r := []) (by simp) c1 c2
    obtain ⟨μ3, l1, l2⟩ := m_bound_lp 14 0 FU (opn a) [] (aSetR a []) _ (by omega) (by unfold FU; omega) rfl (sub_rf _) (opn_lt a) hc14 rfl hx
    refine ⟨μ3, ?_, l2.done hN⟩
    have hsh : f_m_shieldOf (nI (opn a)) (-1) (setI ν1 v_m_rowMany 0 0) = some (nI (sdF (pS (aS a) (aN a) (opn a) 0) (opn a)), setI ν1 v_m_rowMany 0 0) := m_shieldOf (a := aSetR a []) hx.1 hx.2.1.1 hx.2.1.2.1 (opn_lt a) (Or.inl ⟨rfl, rfl⟩)
    rw [m_open hI.1 hI.2.1.1 hI.2.1.2.1, bd2_s, bnd_s, hsh, bd2_s]
    exact l1
end OPS
