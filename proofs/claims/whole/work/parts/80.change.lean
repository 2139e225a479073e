/-! change. -/
theorem fsI_split (P : Nat → Bool) : ∀ m m' i, fsI P (m + m') i = (match fsI P m i with
  | none => fsI P m' (i + m)
  | some v => some v)
  | 0, m', i => by rw [Nat.zero_add]; rfl
  | m + 1, m', i => by
    rw [show m + 1 + m' = (m + m') + 1 by omega, fsI, fsI, fsI_split P m m' (i + 1), show i + 1 + m = i + (m + 1) by omega]
    by_cases c : P i = true
    · rw [if_pos c, if_pos c]
    · rw [if_neg c, if_neg c]
theorem fsI_none {P : Nat → Bool} : ∀ m i, (∀ j, i ≤ j → j < i + m → P j = false) → fsI P m i = none
  | 0, _, _ => rfl
  | m + 1, i, h => by
    rw [fsI, h i (Nat.le_refl _) (by omega), if_neg (by decide)]
    exact fsI_none m (i + 1) (fun j h1 h2 => h j (by omega) (by omega))
theorem fsI_skip {P : Nat → Bool} {m m' i : Nat} (h : ∀ j, i ≤ j → j < i + m → P j = false) : fsI P (m + m') i = fsI P m' (i + m) := by
  rw [fsI_split, fsI_none m i h]
theorem pr_dm {p i j : Nat} (hj : j < p) : (i * p + j) / p = i ∧ (i * p + j) % p = j := by
  have h0 : 0 < p := by omega
  exact ⟨by rw [Nat.mul_comm, Nat.mul_add_div h0, Nat.div_eq_of_lt hj, Nat.add_zero], by rw [Nat.mul_comm, Nat.mul_add_mod, Nat.mod_eq_of_lt hj]⟩
def ordK (p k : Nat) : Bool := decide (k / p < k % p)
/-- a pair, told by its number, by which it is so in the street S1 -/
def pP (a : Ab) (S1 : SP) (n k : Nat) : Bool := ordK (aS a).1 k && soB a (trS S1 (k / (aS a).1) (k % (aS a).1)) n
def prS2 (a : Ab) (k : Nat) : SP := trS (aS a) (k / (aS a).1) (k % (aS a).1)
def fs2 (a : Ab) (n k : Nat) : Option Nat := fsI (pP a (prS2 a k) n) ((aS a).1 * (aS a).1 - (k + 1)) (k + 1)
def pQ (a : Ab) (n k : Nat) : Bool := ordK (aS a).1 k && (fs2 a n k).isSome
def tl1 (p k : Nat) : List Int64 := [(nI (k / p)).toInt64, (nI (k % p)).toInt64]
def chA (a : Ab) (n : Nat) : Int32 × Ab := if soB a (aS a) n then (0, aSetR a []) else match fsI (pP a (aS a) n) ((aS a).1 * (aS a).1) 0 with
  | some k => (1, aSetR a (tl1 (aS a).1 k))
  | none => match fsI (pQ a n) ((aS a).1 * (aS a).1) 0 with
    | some k => (2, aSetR a (tl1 (aS a).1 k ++ tl1 (aS a).1 ((fs2 a n k).getD 0)))
    | none => (-2, a)
theorem pp_le {p : Nat} (hp : p ≤ 14) : p * p ≤ 196 := Nat.mul_le_mul hp hp
section OPS
variable {N : Nat} {a : Ab} {b : Nat × Nat} {μ0 μ : Mem} {Q : Nat} {S S1 : SP}
theorem dm_lt {p k : Nat} (h : k < p * p) : k / p < p ∧ k % p < p ∧ k / p * p + k % p = k := by
  have h0 : 0 < p := by
    rcases Nat.eq_zero_or_pos p with q | q
    · subst q; omega
    · exact q
  exact ⟨(Nat.div_lt_iff_lt_mul h0).mpr h, Nat.mod_lt _ h0, by rw [Nat.mul_comm]; exact Nat.div_add_mod k p⟩
theorem ac_ord (h : XB S μ) {k : Nat} (hk : k < S.1 * S.1) : f_ac_isInOrder (nI k) μ = some (nI (bN (ordK S.1 k)), μ) := by
  have hp := h.2.2.2.2.1
  obtain ⟨d1, d2, d3⟩ := dm_lt hk
  obtain ⟨e1, e2⟩ := ac_one h d1 d2
  rw [d3] at e1 e2
  unfold f_ac_isInOrder ordK
  rw [e1, bd2_s, e2, bd2_s, b_ifn, bnd_s, zb_b, chk_t]
  have : decide (¬ nI (k % S.1) ≤ nI (k / S.1)) = decide (k / S.1 < k % S.1) := decide_eq_decide.mpr (by rw [i_leN (by omega) (by omega), Nat.not_le])
  rw [this]
theorem x_next_lp (hS : Tr (aS a) S1) {n k0 : Nat} (hn : n < 19000) (hag : ∀ i j, i < j → j < (aS a).1 → k0 ≤ i * (aS a).1 + j → S1.2.1 i j = (aS a).2.1 i j ∧ S1.2.1 j i = (aS a).2.1 j i) : ∀ m k g (μ : Mem), k + m = (aS a).1 * (aS a).1 → k0 ≤ k → m < g → XI N b a μ0 μ → HT S1 1 μ → ∃ μ', f_ac_nextPair_b19 g (nI n) (nI ((aS a).1 * (aS a).1)) (nI k) μ = some (nI ((fsI (pP a S1 n) m k).getD ((aS a).1 * (aS a).1)), μ') ∧ XI N b a μ0 μ' ∧ HT S1 1 μ' := by
  intro m
  induction m with
  | zero =>
    intro k g μ hk hk0 hg h hT
    obtain ⟨g, rfl⟩ : ∃ z, g = z + 1 := ⟨g - 1, by omega⟩
    have hpp := pp_le h.1.1.1
    refine ⟨μ, ?_, h, hT⟩
    rw [f_ac_nextPair_b19, if_pos ((i_leN (by omega) (by omega)).mpr (by omega))]
    rfl
  | succ m ih =>
    intro k g μ hk hk0 hg h hT
    obtain ⟨g, rfl⟩ : ∃ z, g = z + 1 := ⟨g - 1, by omega⟩
    have hpp := pp_le h.1.1.1
    obtain ⟨d1, d2, d3⟩ := dm_lt (show k < (aS a).1 * (aS a).1 by omega)
    rw [f_ac_nextPair_b19, if_neg (fun q => absurd ((i_leN (by omega) (by omega)).mp q) (by omega)), ac_ord h.2.1.1 (by omega), bd2_s, fsI]
    cases c1 : ordK (aS a).1 k with
    | false =>
      have hP : pP a S1 n k = false := by unfold pP; rw [c1]; rfl
      rw [if_pos (by decide), hP, if_neg (by decide), show nI k + 1 = nI (k + 1) from i_add k 1]
      exact ih (k + 1) g μ (by omega) (by omega) (by omega) h hT
    | true =>
      have hlt : k / (aS a).1 < k % (aS a).1 := by unfold ordK at c1; exact of_decide_eq_true c1
      obtain ⟨g1, g2⟩ := hag _ _ hlt d2 (by omega)
      obtain ⟨μ1, a1, a2, a3⟩ := x_does h hS hT hn (show k / (aS a).1 ≠ k % (aS a).1 by omega) d1 d2 g1 g2
      rw [d3] at a1
      rw [if_neg (by decide), a1, bd2_s]
      cases c2 : soB a (trS S1 (k / (aS a).1) (k % (aS a).1)) n with
      | false =>
        have hP : pP a S1 n k = false := by unfold pP; rw [c2, Bool.and_false]
        rw [if_pos (by decide), hP, if_neg (by decide), show nI k + 1 = nI (k + 1) from i_add k 1]
        exact ih (k + 1) g μ1 (by omega) (by omega) (by omega) a2 a3
      | true =>
        have hP : pP a S1 n k = true := by unfold pP; rw [c1, c2]; rfl
        refine ⟨μ1, ?_, a2, a3⟩
        rw [if_neg (by decide), hP, if_pos rfl]
        rfl
theorem x_next (hS : Tr (aS a) S1) {n k0 : Nat} (hn : n < 19000) (hk : k0 ≤ (aS a).1 * (aS a).1) (hag : ∀ i j, i < j → j < (aS a).1 → k0 ≤ i * (aS a).1 + j → S1.2.1 i j = (aS a).2.1 i j ∧ S1.2.1 j i = (aS a).2.1 j i) (h : XI N b a μ0 μ) (hT : HT S1 1 μ) : ∃ μ', f_ac_nextPair (nI k0) (nI n) μ = some (nI ((fsI (pP a S1 n) ((aS a).1 * (aS a).1 - k0) k0).getD ((aS a).1 * (aS a).1)), μ') ∧ XI N b a μ0 μ' ∧ HT S1 1 μ' := by
  have hpp := pp_le h.1.1.1
  unfold f_ac_nextPair
  rw [h.2.1.1.1, i_mul, bnd_s]
  exact x_next_lp hS hn hag _ k0 FU μ (by omega) (Nat.le_refl _) (by unfold FU; omega) h hT
theorem x_tellPair {r : List Int64} {k : Nat} (hk : k < (aS a).1 * (aS a).1) (hr : r.length + 2 ≤ 16) (hra : aR a = r) (h : XI N b a μ0 μ) : ∃ μ', f_ac_tellPair (nI k) μ = some μ' ∧ XI N b (aSetR a (r ++ tl1 (aS a).1 k)) μ0 μ' := by
  obtain ⟨d1, d2, d3⟩ := dm_lt hk
  obtain ⟨e1, e2⟩ := ac_one h.2.1.1 d1 d2
  rw [d3] at e1 e2
  obtain ⟨μ1, a1, a2, a3⟩ := rw_add (nI (k / (aS a).1)).toInt64 (hra ▸ h.2.1.2.2.2.1) (by omega)
  have hx := h.row (r := r ++ [(nI (k / (aS a).1)).toInt64]) (by rw [List.length_append, List.length_singleton]; omega) a2 a3
  obtain ⟨μ2, b1, b2, b3⟩ := rw_add (nI (k % (aS a).1)).toInt64 a2 (by rw [List.length_append, List.length_singleton]; omega)
  have hx2 := hx.row (r := (r ++ [(nI (k / (aS a).1)).toInt64]) ++ [(nI (k % (aS a).1)).toInt64]) (by rw [List.length_append, List.length_append, List.length_singleton, List.length_singleton]; omega) b2 b3
  obtain ⟨_, e4⟩ := ac_one (S := aS a) (μ := μ1) hx.2.1.1 d1 d2
  rw [d3] at e4
  refine ⟨μ2, ?_, ?_⟩
  · unfold f_ac_tellPair
    rw [e1, bd2_s, a1, bd1_s, e4, bd2_s, b1, bd1_s]
  · unfold tl1
    rw [show r ++ [(nI (k / (aS a).1)).toInt64, (nI (k % (aS a).1)).toInt64] = (r ++ [(nI (k / (aS a).1)).toInt64]) ++ [(nI (k % (aS a).1)).toInt64] by rw [List.append_assoc]; rfl]
    exact hx2
/-- a pair behind k is another one -/
theorem ag2 {k i j : Nat} (hk : k < (aS a).1 * (aS a).1) (ho : k / (aS a).1 < k % (aS a).1) (hij : i < j) (hj : j < (aS a).1) (h : k + 1 ≤ i * (aS a).1 + j) : (prS2 a k).2.1 i j = (aS a).2.1 i j ∧ (prS2 a k).2.1 j i = (aS a).2.1 j i := by
  obtain ⟨d1, d2, d3⟩ := dm_lt hk
  have n1 : ¬ (i = k / (aS a).1 ∧ j = k % (aS a).1) := fun q => by
    rw [q.1, q.2, d3] at h
    omega
  exact ⟨both_ne _ n1 (fun q => by omega), both_ne _ (fun q => by omega) (fun q => n1 ⟨q.2, q.1⟩)⟩
theorem fs2_lt {n k v : Nat} (hk : k < (aS a).1 * (aS a).1) (h : fs2 a n k = some v) : v < (aS a).1 * (aS a).1 := by
  have := fsI_lt _ _ _ h
  omega
theorem x_ch2_lp (hN : N < 600) {n : Nat} (hn : n < 19000) : ∀ m k g (μ : Mem), k + m = (aS a).1 * (aS a).1 → m < g → XI N b a μ0 μ → HT (aS a) 1 μ → ∃ μ', f_ac_fewestPairs_b70 g (nI n) (nI ((aS a).1 * (aS a).1)) (nI k) μ = some ((match fsI (pQ a n) m k with
    | some k => ((2 : Int32), aSetR a (tl1 (aS a).1 k ++ tl1 (aS a).1 ((fs2 a n k).getD 0)))
    | none => (-2, a)).1, μ') ∧ XO N (match fsI (pQ a n) m k with
    | some k => ((2 : Int32), aSetR a (tl1 (aS a).1 k ++ tl1 (aS a).1 ((fs2 a n k).getD 0)))
    | none => (-2, a)).2 μ0 μ' := by
  intro m
  induction m with
  | zero =>
    intro k g μ hk hg h hT
    obtain ⟨g, rfl⟩ : ∃ z, g = z + 1 := ⟨g - 1, by omega⟩
    have hpp := pp_le h.1.1.1
    refine ⟨μ, ?_, h.done hN⟩
    rw [f_ac_fewestPairs_b70, if_pos ((i_leN (by omega) (by omega)).mpr (by omega))]
    rfl
  | succ m ih =>
    intro k g μ hk hg h hT
    obtain ⟨g, rfl⟩ : ∃ z, g = z + 1 := ⟨g - 1, by omega⟩
    have hpp := pp_le h.1.1.1
    have hkl : k < (aS a).1 * (aS a).1 := by omega
    obtain ⟨d1, d2, d3⟩ := dm_lt hkl
    rw [f_ac_fewestPairs_b70, if_neg (fun q => absurd ((i_leN (by omega) (by omega)).mp q) (by omega)), ac_ord h.2.1.1 hkl, bd2_s, fsI]
    cases c1 : ordK (aS a).1 k with
    | false =>
      have hP : pQ a n k = false := by unfold pQ; rw [c1]; rfl
      rw [if_pos (by decide), hP, if_neg (show ¬ false = true by decide), show nI k + 1 = nI (k + 1) from i_add k 1]
      exact ih (k + 1) g μ (by omega) (by omega) h hT
    | true =>
      have hlt : k / (aS a).1 < k % (aS a).1 := by unfold ordK at c1; exact of_decide_eq_true c1
      obtain ⟨μ1, a1, a2, a3⟩ := x_turnP h (Tr.rf h.1) hT (show k / (aS a).1 ≠ k % (aS a).1 by omega) d1 d2 rfl rfl
      rw [d3] at a1
      have hTr : Tr (aS a) (prS2 a k) := ⟨rfl, rfl, trS_ok h.1.1 _ _⟩
      obtain ⟨μ2, b1, b2, b3⟩ := x_next (S1 := prS2 a k) hTr hn (k0 := k + 1) (by omega) (fun i j h1 h2 h3 => ag2 hkl hlt h1 h2 h3) a2 a3
      obtain ⟨μ3, f1, f2, f3⟩ := x_backP b2 (Tr.rf h.1) (i := k / (aS a).1) (j := k % (aS a).1) b3 (by omega) d1 d2 rfl rfl
      rw [d3] at f1
      rw [if_neg (by decide), a1, bd1_s, show nI k + 1 = nI (k + 1) from i_add k 1, b1, bd2_s, f1, bd1_s]
      have efs : fsI (pP a (prS2 a k) n) ((aS a).1 * (aS a).1 - (k + 1)) (k + 1) = fs2 a n k := rfl
      rw [efs]
      cases c2 : fs2 a n k with
      | none =>
        have hP : pQ a n k = false := by unfold pQ; rw [c2]; simp
        rw [hP, if_neg (show ¬ false = true by decide), if_pos (show nI ((aS a).1 * (aS a).1) ≤ nI ((none : Option Nat).getD ((aS a).1 * (aS a).1)) from (i_leN (by omega) (by show (aS a).1 * (aS a).1 < _; omega)).mpr (Nat.le_refl _))]
        exact ih (k + 1) g μ3 (by omega) (by omega) f2 f3
      | some v =>
        have hv := fs2_lt hkl c2
        have hP : pQ a n k = true := by unfold pQ; rw [c1, c2]; rfl
        rw [hP, if_pos rfl, show (some v).getD ((aS a).1 * (aS a).1) = v from rfl, if_neg (fun q => absurd ((i_leN (by omega) (by omega)).mp q) (by omega))]
        obtain ⟨μ4, g1, g2, g3⟩ := rw_clear μ3
        have hx := f2.row (r := []) (by simp) g2 g3
        obtain ⟨μ5, u1, u2⟩ := x_tellPair (a := aSetR a []) (r := []) hkl (by simp) rfl hx
        obtain ⟨μ6, v1, v2⟩ := x_tellPair (a := aSetR a ([] ++ tl1 (aS a).1 k)) (r := [] ++ tl1 (aS a).1 k) hv (by simp [tl1]) rfl u2
        refine ⟨μ6, ?_, ?_⟩
        · rw [g1, bd1_s, u1, bd1_s, v1, bd1_s]
        · show XO N (aSetR a (tl1 (aS a).1 k ++ tl1 (aS a).1 ((fs2 a n k).getD 0))) μ0 μ6
          rw [c2]
          exact v2.done hN
theorem x_change (hN : N < 600) {n : Nat} (hn : n < 19000) (h : XR N a μ) : ∃ μ', f_ac_fewestPairs (nI n) μ = some ((chA a n).1, μ') ∧ XO N (chA a n).2 μ μ' := by
  have hpp := pp_le h.1.1.1
  obtain ⟨μ1, l1, l2, l3, l4⟩ := he_learn (t := 1) h.2.1.1
  have hX := h.XI.trial l4
  have hd := x_dayT hX (Tr.rf h.1) l2 hn
  unfold f_ac_fewestPairs chA
  rw [l1, bd1_s, hd, bd2_s]
  have hso : soB a (aS a) n = (dyF (aS a) (2 ^ (aS a).1 - 1) n (aN a)).isSome := rfl
  by_cases c : dyF (aS a) (2 ^ (aS a).1 - 1) n (aN a) = none
  · rw [if_pos ((dyF_ne hn).mpr c), hso, c, if_neg (show ¬ (none : Option Nat).isSome = true by decide), hX.2.1.1.1, i_mul, bnd_s, l_0]
    obtain ⟨μ2, b1, b2, b3⟩ := x_next (Tr.rf h.1) hn (k0 := 0) (by omega) (fun i j _ _ _ => ⟨rfl, rfl⟩) hX l2
    rw [Nat.sub_zero] at b1
    rw [b1, bd2_s]
    cases c1 : fsI (pP a (aS a) n) ((aS a).1 * (aS a).1) 0 with
    | none =>
      rw [if_pos (show nI ((aS a).1 * (aS a).1) ≤ nI ((none : Option Nat).getD ((aS a).1 * (aS a).1)) from (i_leN (by omega) (by show (aS a).1 * (aS a).1 < _; omega)).mpr (Nat.le_refl _))]
      exact x_ch2_lp hN hn ((aS a).1 * (aS a).1) 0 FU μ2 (by omega) (by unfold FU; omega) b2 b3
    | some k =>
      have hk := fsI_lt _ _ _ c1
      rw [show (some k).getD ((aS a).1 * (aS a).1) = k from rfl, if_neg (fun q => absurd ((i_leN (by omega) (by omega)).mp q) (by omega))]
      obtain ⟨μ4, g1, g2, g3⟩ := rw_clear μ2
      have hx := b2.row (r := []) (by simp) g2 g3
      obtain ⟨μ5, u1, u2⟩ := x_tellPair (a := aSetR a []) (r := []) (k := k) (by show k < (aS a).1 * (aS a).1; omega) (by simp) rfl hx
      refine ⟨μ5, ?_, u2.done hN⟩
      rw [g1, bd1_s, u1, bd1_s]
  · obtain ⟨μ4, g1, g2, g3⟩ := rw_clear μ1
    rw [if_neg (fun q => c ((dyF_ne hn).mp q)), hso, Option.isSome_iff_ne_none.mpr c, if_pos rfl]
    exact ⟨μ4, by rw [g1, bd1_s], hX.told hN (by simp) g2 g3⟩
end OPS
