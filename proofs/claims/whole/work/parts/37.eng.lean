/-! What the public functions share: short facts in the form that ints take when all literals are small numbers. -/
theorem chk_q {β : Type} (k : Option β) : chk true k = k := Eq.trans rfl rfl
theorem bd2_q {α β : Type} (v : α) (μ : Mem) (f : α → Mem → Option β) : bd2 (some (v, μ)) f = f v μ := Eq.trans rfl rfl
theorem bd1_q {β : Type} (μ : Mem) (f : Mem → Option β) : bd1 (some μ) f = f μ := Eq.trans rfl rfl
theorem bnd_q {α β : Type} (a : α) (f : α → Option β) : bnd a f = f a := Eq.trans rfl rfl
theorem l_202 : (202 : Int32) = nI 202 := rfl
theorem i_bitQ {n i : Nat} (h : n < 2 ^ 31) (hi : i < 32) : (nI n >>> nI (i &&& 31)) &&& nI 1 = nI (bN (n.testBit i)) := by rw [← i_and]; exact i_bit h hi
theorem i_oneQ {i : Nat} (hi : i < 31) : nI 1 <<< nI (i &&& 31) = nI (2 ^ i) := by rw [← i_and]; exact i_one hi
theorem i_woQ (a b : Nat) : nI b &&& (nI a ^^^ -nI 1) = nI (wo b a) := i_wo a b
theorem zb_q0 : zb (nI 0) = true := rfl
theorem zb_q1 : zb (nI 1) = true := rfl
theorem b_0Q (b : Bool) : (nI (bN b) = nI 0) ↔ b = false := b_0 b
theorem i_nleG {x : Int32} {n : Nat} (h : x < nI 0) (hn : n < 2 ^ 31) : (nI n ≤ x) ↔ False := ⟨fun q => absurd (show x < 0 from h) (by rw [i_lt]; rw [i_le, i_tI hn] at q; have : (0 : Int32).toInt = 0 := rfl; omega), False.elim⟩
theorem i_nltG {x : Int32} {n : Nat} (h : x < nI 0) (hn : n < 2 ^ 31) : (nI n < x) ↔ False := ⟨fun q => absurd (show x < 0 from h) (by rw [i_lt]; rw [i_lt, i_tI hn] at q; have : (0 : Int32).toInt = 0 := rfl; omega), False.elim⟩
theorem i_casesQ (x : Int32) : x < nI 0 ∨ ∃ n : Nat, n < 2 ^ 31 ∧ x = nI n := i_cases x
theorem nI_lt_self {n : Nat} (hn : n < 2 ^ 31) : (nI n < nI 0) ↔ False := ⟨fun q => absurd q (i_nlt0 hn), False.elim⟩
abbrev aN (a : Ab) : Nat := aZ a (aD a)
/-! class side -/
section CE
variable {a : Ab} {μ : Mem} {S : SP}
theorem st_now (hW : WF a) (h : XP a μ) : f_st_now μ = some (nI (aN a), μ) := by
  have h1 := h.2.1.2.1
  have h2 := h.2.1.2.2 _ (Nat.le_refl _)
  have h3 := hW.2.2.2.1.1
  simp (disch := omega) only [l_0, l_1, l_2, l_3, l_4, l_5, l_6, l_7, l_8, l_9, l_10, l_14, l_15, l_16, l_20, l_31, l_40, l_48, l_50, l_57, l_60, l_64, l_76, l_80, l_99, l_100, l_127, l_196, l_200, l_201, l_202, l_255, l_412, l_999, l_1000, l_16000, l_1000000, i_add, i_mul, i_sub, i_leN, i_ltN, i_eqN, i_nleG, i_nltG, inb_n, cl_nI, chk_q, bnd_q, bd1_q, bd2_q, i_bitQ, i_oneQ, i_woQ, i_or, i_and, i_xor, zb_q0, zb_q1, zb_b, b_0Q, if_true, if_false, reduceCtorEq, if_pos, if_neg, f_st_now, h1, h2]
theorem st_has (h : XB S μ) {n : Nat} (hn : n < 2 ^ 31) : f_st_has (nI n) μ = some (nI (bN (decide (n < S.1))), μ) := by
  have h1 := h.1
  have h2 := h.2.2.2.2.1
  unfold f_st_has
  rw [if_neg (i_nlt0 hn), b_ifn, bnd_s, zb_b, chk_t, h1]
  simp (disch := omega) only [l_0, l_1, l_2, l_3, l_4, l_5, l_6, l_7, l_8, l_9, l_10, l_14, l_15, l_16, l_20, l_31, l_40, l_48, l_50, l_57, l_60, l_64, l_76, l_80, l_99, l_100, l_127, l_196, l_200, l_201, l_202, l_255, l_412, l_999, l_1000, l_16000, l_1000000, i_add, i_mul, i_sub, i_leN, i_ltN, i_eqN, i_nleG, i_nltG, inb_n, cl_nI, chk_q, bnd_q, bd1_q, bd2_q, i_bitQ, i_oneQ, i_woQ, i_or, i_and, i_xor, zb_q0, zb_q1, zb_b, b_0Q, if_true, if_false, reduceCtorEq, if_pos, if_neg, Nat.not_le]
theorem st_hasG {x : Int32} (hx : x < nI 0) (μ : Mem) : f_st_has x μ = some (nI 0, μ) := by
  unfold f_st_has
  rw [if_pos (show x < 0 from hx)]
  rfl
theorem st_hasAll (h : XB S μ) {n : Nat} (hn : n < 2 ^ 31) : f_st_hasAll (nI n) μ = some (nI (bN (decide (n < 2 ^ S.1))), μ) := by
  have h14 := p2_14 h.2.2.2.2.1
  have h1 := Nat.one_le_two_pow (n := S.1)
  unfold f_st_hasAll
  rw [if_neg (i_nlt0 hn), st_everybody h, bd2_s, b_ifn, bnd_s, zb_b, chk_t]
  have e : decide (¬ nI (2 ^ S.1 - 1) < nI n) = decide (n < 2 ^ S.1) := decide_eq_decide.mpr (by rw [i_ltN (by omega) hn]; omega)
  rw [e]
theorem st_hasAllG {x : Int32} (hx : x < nI 0) (μ : Mem) : f_st_hasAll x μ = some (nI 0, μ) := by
  unfold f_st_hasAll
  rw [if_pos (show x < 0 from hx)]
  rfl
/-- who is open to talk -/
def opn (a : Ab) : Nat := wo (wo (2 ^ (aS a).1 - 1) (aS a).2.2.2) (aN a)
theorem opn_lt (a : Ab) : opn a < 2 ^ (aS a).1 := wo_lt (wo_lt (ev_lt _))
theorem st_open (hW : WF a) (h : XP a μ) : f_st_openToTalk μ = some (nI (opn a), μ) := by
  have h1 := h.1.2.2.2.1
  simp (disch := omega) only [l_0, l_1, l_2, l_3, l_4, l_5, l_6, l_7, l_8, l_9, l_10, l_14, l_15, l_16, l_20, l_31, l_40, l_48, l_50, l_57, l_60, l_64, l_76, l_80, l_99, l_100, l_127, l_196, l_200, l_201, l_202, l_255, l_412, l_999, l_1000, l_16000, l_1000000, i_add, i_mul, i_sub, i_leN, i_ltN, i_eqN, i_nleG, i_nltG, inb_n, cl_nI, chk_q, bnd_q, bd1_q, bd2_q, i_bitQ, i_oneQ, i_woQ, i_or, i_and, i_xor, zb_q0, zb_q1, zb_b, b_0Q, if_true, if_false, reduceCtorEq, if_pos, if_neg, f_st_openToTalk, st_everybody h.1, st_now hW h, h1]
  rfl
/-- the prices of some -/
def prS (p : Nat) (pr : Nat → Nat) (s : Nat) : Nat := sm (fun i => bN (s.testBit i) * pr i) p
theorem prS_le {p : Nat} {pr : Nat → Nat} (hp : p ≤ 14) (h : ∀ i, i < p → pr i ≤ 9) (s : Nat) : prS p pr s ≤ 126 := by
  have := sm_le (f := fun i => bN (s.testBit i) * pr i) (c := 9) p (fun i hi => by
    have h1 := bN_lt (s.testBit i)
    have h2 := h i hi
    exact Nat.le_trans (Nat.mul_le_mul h1 h2) (by omega))
  unfold prS
  omega
theorem st_priceOf_lp {pr : Nat → Nat} (h : XB S μ) (h5 : ∀ i, i < S.1 → μ.1 (vSt 0 5) i = nI (pr i)) {s : Nat} (hs : s < 2 ^ 31) : ∀ m i n, i + m = S.1 → m < n → f_st_priceOf_b4 n (nI s) (nI (sm (fun i => bN (s.testBit i) * pr i) i)) (nI i) μ = some (nI (prS S.1 pr s), μ) := by
  have hp := h.2.2.2.2.1
  have h0 := h.1
  intro m
  induction m with
  | zero =>
    intro i n hi hn
    obtain ⟨n, rfl⟩ : ∃ z, n = z + 1 := ⟨n - 1, by omega⟩
    obtain rfl : i = S.1 := by omega
    simp (disch := omega) only [l_0, l_1, l_2, l_3, l_4, l_5, l_6, l_7, l_8, l_9, l_10, l_14, l_15, l_16, l_20, l_31, l_40, l_48, l_50, l_57, l_60, l_64, l_76, l_80, l_99, l_100, l_127, l_196, l_200, l_201, l_202, l_255, l_412, l_999, l_1000, l_16000, l_1000000, i_add, i_mul, i_sub, i_leN, i_ltN, i_eqN, i_nleG, i_nltG, inb_n, cl_nI, chk_q, bnd_q, bd1_q, bd2_q, i_bitQ, i_oneQ, i_woQ, i_or, i_and, i_xor, zb_q0, zb_q1, zb_b, b_0Q, if_true, if_false, reduceCtorEq, if_pos, if_neg, f_st_priceOf_b4, h0]
    rfl
  | succ m ih =>
    intro i n hi hn
    obtain ⟨n, rfl⟩ : ∃ z, n = z + 1 := ⟨n - 1, by omega⟩
    have := ih (i + 1) n (by omega) (by omega)
    rw [sm] at this
    simp (disch := omega) only [l_0, l_1, l_2, l_3, l_4, l_5, l_6, l_7, l_8, l_9, l_10, l_14, l_15, l_16, l_20, l_31, l_40, l_48, l_50, l_57, l_60, l_64, l_76, l_80, l_99, l_100, l_127, l_196, l_200, l_201, l_202, l_255, l_412, l_999, l_1000, l_16000, l_1000000, i_add, i_mul, i_sub, i_leN, i_ltN, i_eqN, i_nleG, i_nltG, inb_n, cl_nI, chk_q, bnd_q, bd1_q, bd2_q, i_bitQ, i_oneQ, i_woQ, i_or, i_and, i_xor, zb_q0, zb_q1, zb_b, b_0Q, if_true, if_false, reduceCtorEq, if_pos, if_neg, f_st_priceOf_b4, h0, h5, this]
theorem st_priceOf {pr : Nat → Nat} (h : XB S μ) (h5 : ∀ i, i < S.1 → μ.1 (vSt 0 5) i = nI (pr i)) {s : Nat} (hs : s < 2 ^ 31) : f_st_priceOf (nI s) μ = some (nI (prS S.1 pr s), μ) :=
  st_priceOf_lp h h5 hs S.1 0 FU (by omega) (by have := h.2.2.2.2.1; unfold FU; omega)
theorem st_sumHeard_lp (h : XB S μ) {k s : Nat} (hk : k < 14) (hs : s < 2 ^ 31) : ∀ m i n, i + m = S.1 → m < n → f_st_sumHeard_b5 n (nI k) (nI s) (nI (sm (fun i => bN (s.testBit i) * S.2.1 k i) i)) (nI i) μ = some (nI (hrd S k s), μ) := by
  have hp := h.2.2.2.2.1
  have h0 := h.1
  have h2 := h.2.1
  intro m
  induction m with
  | zero =>
    intro i n hi hn
    obtain ⟨n, rfl⟩ : ∃ z, n = z + 1 := ⟨n - 1, by omega⟩
    obtain rfl : i = S.1 := by omega
    simp (disch := omega) only [l_0, l_1, l_2, l_3, l_4, l_5, l_6, l_7, l_8, l_9, l_10, l_14, l_15, l_16, l_20, l_31, l_40, l_48, l_50, l_57, l_60, l_64, l_76, l_80, l_99, l_100, l_127, l_196, l_200, l_201, l_202, l_255, l_412, l_999, l_1000, l_16000, l_1000000, i_add, i_mul, i_sub, i_leN, i_ltN, i_eqN, i_nleG, i_nltG, inb_n, cl_nI, chk_q, bnd_q, bd1_q, bd2_q, i_bitQ, i_oneQ, i_woQ, i_or, i_and, i_xor, zb_q0, zb_q1, zb_b, b_0Q, if_true, if_false, reduceCtorEq, if_pos, if_neg, f_st_sumHeard_b5, h0]
    rfl
  | succ m ih =>
    intro i n hi hn
    obtain ⟨n, rfl⟩ : ∃ z, n = z + 1 := ⟨n - 1, by omega⟩
    have := ih (i + 1) n (by omega) (by omega)
    rw [sm] at this
    simp (disch := omega) only [l_0, l_1, l_2, l_3, l_4, l_5, l_6, l_7, l_8, l_9, l_10, l_14, l_15, l_16, l_20, l_31, l_40, l_48, l_50, l_57, l_60, l_64, l_76, l_80, l_99, l_100, l_127, l_196, l_200, l_201, l_202, l_255, l_412, l_999, l_1000, l_16000, l_1000000, i_add, i_mul, i_sub, i_leN, i_ltN, i_eqN, i_nleG, i_nltG, inb_n, cl_nI, chk_q, bnd_q, bd1_q, bd2_q, i_bitQ, i_oneQ, i_woQ, i_or, i_and, i_xor, zb_q0, zb_q1, zb_b, b_0Q, if_true, if_false, reduceCtorEq, if_pos, if_neg, f_st_sumHeard_b5, h0, h2, this]
theorem st_sumHeard (h : XB S μ) {k s : Nat} (hk : k < 14) (hs : s < 2 ^ 31) : f_st_sumHeard (nI k) (nI s) μ = some (nI (hrd S k s), μ) :=
  st_sumHeard_lp h hk hs S.1 0 FU (by omega) (by have := h.2.2.2.2.1; unfold FU; omega)
theorem hrd_all (S : SP) (k : Nat) : hrd S k (2 ^ S.1 - 1) = allS S k := sm_congr _ (fun i hi => by rw [tb_ev, decide_eq_true hi]; exact Nat.one_mul _)
theorem st_allOf (h : XB S μ) {k : Nat} (hk : k < 14) : f_st_allOf (nI k) μ = some (nI (allS S k), μ) := by
  have h14 := p2_14 h.2.2.2.2.1
  unfold f_st_allOf
  rw [st_everybody h, bd2_s, st_sumHeard h hk (by omega), bd2_s, hrd_all]
theorem st_loudness_lp (h : XB S μ) {k : Nat} (hk : k < 14) : ∀ m i n, i + m = S.1 → m < n → f_st_loudnessOf_b4 n (nI k) (nI (sm (fun i => S.2.1 i k) i)) (nI i) μ = some (nI (byS S k), μ) := by
  have hp := h.2.2.2.2.1
  have h0 := h.1
  have h2 := h.2.1
  intro m
  induction m with
  | zero =>
    intro i n hi hn
    obtain ⟨n, rfl⟩ : ∃ z, n = z + 1 := ⟨n - 1, by omega⟩
    obtain rfl : i = S.1 := by omega
    simp (disch := omega) only [l_0, l_1, l_2, l_3, l_4, l_5, l_6, l_7, l_8, l_9, l_10, l_14, l_15, l_16, l_20, l_31, l_40, l_48, l_50, l_57, l_60, l_64, l_76, l_80, l_99, l_100, l_127, l_196, l_200, l_201, l_202, l_255, l_412, l_999, l_1000, l_16000, l_1000000, i_add, i_mul, i_sub, i_leN, i_ltN, i_eqN, i_nleG, i_nltG, inb_n, cl_nI, chk_q, bnd_q, bd1_q, bd2_q, i_bitQ, i_oneQ, i_woQ, i_or, i_and, i_xor, zb_q0, zb_q1, zb_b, b_0Q, if_true, if_false, reduceCtorEq, if_pos, if_neg, f_st_loudnessOf_b4, h0]
    rfl
  | succ m ih =>
    intro i n hi hn
    obtain ⟨n, rfl⟩ : ∃ z, n = z + 1 := ⟨n - 1, by omega⟩
    have := ih (i + 1) n (by omega) (by omega)
    rw [sm] at this
    simp (disch := omega) only [l_0, l_1, l_2, l_3, l_4, l_5, l_6, l_7, l_8, l_9, l_10, l_14, l_15, l_16, l_20, l_31, l_40, l_48, l_50, l_57, l_60, l_64, l_76, l_80, l_99, l_100, l_127, l_196, l_200, l_201, l_202, l_255, l_412, l_999, l_1000, l_16000, l_1000000, i_add, i_mul, i_sub, i_leN, i_ltN, i_eqN, i_nleG, i_nltG, inb_n, cl_nI, chk_q, bnd_q, bd1_q, bd2_q, i_bitQ, i_oneQ, i_woQ, i_or, i_and, i_xor, zb_q0, zb_q1, zb_b, b_0Q, if_true, if_false, reduceCtorEq, if_pos, if_neg, f_st_loudnessOf_b4, h0, h2, this]
theorem st_loudness (h : XB S μ) {k : Nat} (hk : k < 14) : f_st_loudnessOf (nI k) μ = some (nI (byS S k), μ) :=
  st_loudness_lp h hk S.1 0 FU (by omega) (by have := h.2.2.2.2.1; unfold FU; omega)
end CE
/-! the row that is told -/
def rwAdd (r : List Int64) (x : Int64) : List Int64 := if r.length < 16 then r ++ [x] else r
theorem getD_app {α : Type} (r : List α) (x d : α) (k : Nat) (hk : k < (r ++ [x]).length) : (r ++ [x]).getD k d = if k = r.length then x else r.getD k d := by
  rw [List.length_append, List.length_singleton] at hk
  by_cases h : k = r.length
  · subst h; simp
  · rw [if_neg h, List.getD_eq_getElem?_getD, List.getD_eq_getElem?_getD, List.getElem?_append_left (by omega)]
def rFr (μ μ' : Mem) : Prop := (∀ v, v ≠ v_row_size → μ'.1 v = μ.1 v) ∧ (∀ v, v ≠ l_row_numbers → μ'.2.1 v = μ.2.1 v) ∧ μ'.2.2 = μ.2.2
theorem rFr.tr {a b c : Mem} (h : rFr a b) (k : rFr b c) : rFr a c := ⟨fun v hv => (k.1 v hv).trans (h.1 v hv), fun v hv => (k.2.1 v hv).trans (h.2.1 v hv), k.2.2.trans h.2.2⟩
theorem rw_clear (μ : Mem) : ∃ μ', f_rw_clear μ = some μ' ∧ XW [] μ' ∧ rFr μ μ' := by
  refine ⟨_, rfl, ⟨sI_eq _ _ _ _, fun k hk => absurd hk (by simp)⟩, fun v hv => sI_v _ _ _ hv, fun v hv => rfl, rfl⟩
theorem rw_add {r : List Int64} {μ : Mem} (x : Int64) (h : XW r μ) (hr : r.length < 16) : ∃ μ', f_rw_add x μ = some μ' ∧ XW (r ++ [x]) μ' ∧ rFr μ μ' := by
  have h1 := h.1
  refine ⟨setL (setI μ v_row_size 0 (nI (r.length + 1))) l_row_numbers r.length x, by simp (disch := omega) only [l_0, l_1, l_2, l_3, l_4, l_5, l_6, l_7, l_8, l_9, l_10, l_14, l_15, l_16, l_20, l_31, l_40, l_48, l_50, l_57, l_60, l_64, l_76, l_80, l_99, l_100, l_127, l_196, l_200, l_201, l_202, l_255, l_412, l_999, l_1000, l_16000, l_1000000, i_add, i_mul, i_sub, i_leN, i_ltN, i_eqN, i_nleG, i_nltG, inb_n, cl_nI, chk_q, bnd_q, bd1_q, bd2_q, i_bitQ, i_oneQ, i_woQ, i_or, i_and, i_xor, zb_q0, zb_q1, zb_b, b_0Q, if_true, if_false, reduceCtorEq, if_pos, if_neg, f_rw_add, h1], ⟨?_, fun k hk => ?_⟩, fun v hv => ?_, fun v hv => ?_, rfl⟩
  · rw [sL_1, sI_eq, List.length_append, List.length_singleton]
  · rw [getD_app _ _ _ _ hk]
    by_cases e : k = r.length
    · rw [if_pos e, e, sL_eq]
    · rw [if_neg e, sL_i _ _ _ e]
      exact h.2 k (by rw [List.length_append, List.length_singleton] at hk; omega)
  · rw [sL_1, sI_v _ _ _ hv]
  · rw [sL_v _ _ _ hv]; rfl
theorem rw_only (x : Int64) (μ : Mem) : ∃ μ', f_rw_only x μ = some μ' ∧ XW [x] μ' ∧ rFr μ μ' := by
  obtain ⟨μ1, a1, a2, a3⟩ := rw_clear μ
  obtain ⟨μ2, b1, b2, b3⟩ := rw_add x a2 (by decide)
  exact ⟨μ2, by unfold f_rw_only; rw [a1, bd1_s, b1, bd1_s], b2, a3.tr b3⟩
