/-! hops: how far, and the class. -/
/-- who is k steps away from one, and who is no farther -/
def laS (S : SP) (to : Nat) : Nat → Nat × Nat
  | 0 => (2 ^ to, 2 ^ to)
  | k + 1 => (wo (hba S (laS S to k).1 S.1) (laS S to k).2, (laS S to k).2 ||| wo (hba S (laS S to k).1 S.1) (laS S to k).2)
abbrev lay (S : SP) (to k : Nat) : Nat := (laS S to k).1
abbrev lsn (S : SP) (to k : Nat) : Nat := (laS S to k).2
theorem lay_s (S : SP) (to k : Nat) : lay S to (k + 1) = wo (hba S (lay S to k) S.1) (lsn S to k) := rfl
theorem lsn_s (S : SP) (to k : Nat) : lsn S to (k + 1) = lsn S to k ||| lay S to (k + 1) := rfl
section HP
variable {S : SP} {to : Nat}
theorem lay_lt (ht : to < S.1) : ∀ k, lay S to k < 2 ^ S.1 ∧ lsn S to k < 2 ^ S.1
  | 0 => ⟨Nat.pow_lt_pow_right (by omega) ht, Nat.pow_lt_pow_right (by omega) ht⟩
  | k + 1 => by
    have := lay_lt ht k
    rw [lay_s, lsn_s, lay_s]
    exact ⟨wo_lt (hba_lt S _ _), or_lt this.2 (wo_lt (hba_lt S _ _))⟩
theorem lsn_tb (i : Nat) : ∀ k, (lsn S to k).testBit i = true ↔ ∃ j, j ≤ k ∧ (lay S to j).testBit i = true
  | 0 => ⟨fun h => ⟨0, Nat.le_refl _, h⟩, fun ⟨j, h1, h2⟩ => by
    obtain rfl : j = 0 := by omega
    exact h2⟩
  | k + 1 => by
    rw [lsn_s, Nat.testBit_or, Bool.or_eq_true, lsn_tb i k]
    constructor
    · rintro (⟨j, h1, h2⟩ | h)
      · exact ⟨j, by omega, h2⟩
      · exact ⟨k + 1, Nat.le_refl _, h⟩
    · rintro ⟨j, h1, h2⟩
      by_cases e : j = k + 1
      · subst e; exact Or.inr h2
      · exact Or.inl ⟨j, by omega, h2⟩
theorem lay_disj {i j k : Nat} (h1 : (lay S to j).testBit i = true) (h2 : (lay S to k).testBit i = true) : j = k := by
  have key : ∀ j k, j < k → (lay S to j).testBit i = true → (lay S to k).testBit i = true → False := fun j k hjk g1 g2 => by
    obtain ⟨k, rfl⟩ : ∃ z, k = z + 1 := ⟨k - 1, by omega⟩
    rw [lay_s, wo_tb, Bool.and_eq_true, (lsn_tb i k).mpr ⟨j, by omega, g1⟩] at g2
    exact absurd g2.2 (by decide)
  rcases Nat.lt_trichotomy j k with q | q | q
  · exact (key j k q h1 h2).elim
  · exact q
  · exact (key k j q h2 h1).elim
theorem lay_pre {i k : Nat} (h : (lay S to (k + 1)).testBit i = true) : ∃ o, o < S.1 ∧ (lay S to k).testBit o = true ∧ i < S.1 ∧ 0 < S.2.1 o i := by
  rw [lay_s, wo_tb, Bool.and_eq_true] at h
  exact (hba_tb S _ i S.1).mp h.1
/-- a layer that is not empty is near -/
theorem lay_near (ht : to < S.1) : ∀ k, (∃ i, (lay S to k).testBit i = true) → k + 1 ≤ crd S.1 (lsn S to k)
  | 0, _ => by
    have h : crd S.1 0 < crd S.1 (lsn S to 0) := crd_lt (lay_lt ht 0).2 (fun j q => by rw [tb_0] at q; exact absurd q (by decide)) (fun q => by
      have := Nat.two_pow_pos to
      have e : lsn S to 0 = 2 ^ to := rfl
      omega)
    omega
  | k + 1, ⟨i, hi⟩ => by
    obtain ⟨o, _, h2, _⟩ := lay_pre hi
    have ih := lay_near ht k ⟨o, h2⟩
    have : crd S.1 (lsn S to k) < crd S.1 (lsn S to (k + 1)) := crd_lt (lay_lt ht (k + 1)).2 (fun j q => by rw [lsn_s, Nat.testBit_or, q]; rfl) (fun q => by
      have h3 : (lsn S to (k + 1)).testBit i = true := by rw [lsn_s, Nat.testBit_or, hi, Bool.or_true]
      rw [← q] at h3
      obtain ⟨j, j1, j2⟩ := (lsn_tb i k).mp h3
      have := lay_disj j2 hi
      omega)
    omega
theorem lay_p (ht : to < S.1) {i k : Nat} (h : (lay S to k).testBit i = true) : k < S.1 := by
  have h1 := lay_near ht k ⟨i, h⟩
  have h2 := crd_le S.1 (lsn S to k)
  omega
/-- how many steps from i -/
def dst (S : SP) (to i : Nat) : Nat := match fsI (fun k => (lay S to k).testBit i) 15 0 with
  | none => 1000000
  | some k => k
theorem dst_lay (hp : S.1 ≤ 14) (ht : to < S.1) {i k : Nat} (h : (lay S to k).testBit i = true) : dst S to i = k := by
  have hk := lay_p ht h
  unfold dst
  cases e : fsI (fun k => (lay S to k).testBit i) 15 0 with
  | none => exact absurd e (fsI_some _ _ ⟨k, by omega, by omega, h⟩)
  | some v =>
    obtain ⟨_, _, h3⟩ := fsI_lt _ _ _ e
    exact lay_disj h3 h
theorem dst_cs (ht : to < S.1) (i : Nat) : (dst S to i = 1000000 ∧ ∀ k, k < 15 → (lay S to k).testBit i = false) ∨ (dst S to i < S.1 ∧ (lay S to (dst S to i)).testBit i = true) := by
  unfold dst
  cases e : fsI (fun k => (lay S to k).testBit i) 15 0 with
  | none =>
    refine Or.inl ⟨rfl, fun k hk => ?_⟩
    cases c : (lay S to k).testBit i with
    | false => rfl
    | true => exact absurd e (fsI_some _ _ ⟨k, by omega, by omega, c⟩)
  | some v =>
    obtain ⟨_, _, h3⟩ := fsI_lt _ _ _ e
    exact Or.inr ⟨lay_p ht h3, h3⟩
theorem dst_to (hp : S.1 ≤ 14) (ht : to < S.1) : dst S to to = 0 := dst_lay hp ht (k := 0) (by show (2 ^ to).testBit to = true; rw [tb_p2]; simp)
theorem dst_le (ht : to < S.1) (i : Nat) : dst S to i ≤ 1000000 ∧ (dst S to i < 1000000 → dst S to i < S.1) := by
  rcases dst_cs ht i with h | h
  · exact ⟨by omega, fun q => by omega⟩
  · constructor
    · have : S.1 ≤ 14 ∨ 14 < S.1 := by omega
      unfold dst
      cases e : fsI (fun k => (lay S to k).testBit i) 15 0 with
      | none => exact Nat.le_refl _
      | some v => have := fsI_lt _ _ _ e; show v ≤ _; omega
    · exact fun _ => h.1
theorem dst_tri (hp : S.1 ≤ 14) (ht : to < S.1) {o i : Nat} (hi : i < S.1) (ho : o < S.1) (h : 0 < S.2.1 o i) : dst S to i ≤ dst S to o + 1 := by
  rcases dst_cs ht o with q | ⟨q1, q2⟩
  · have := (dst_le ht i).1; omega
  · have h1 : (hba S (lay S to (dst S to o)) S.1).testBit i = true := (hba_tb S _ i S.1).mpr ⟨o, ho, q2, hi, h⟩
    cases c : (lsn S to (dst S to o)).testBit i with
    | true =>
      obtain ⟨j, j1, j2⟩ := (lsn_tb i _).mp c
      have := dst_lay hp ht j2
      omega
    | false =>
      have h2 : (lay S to (dst S to o + 1)).testBit i = true := by rw [lay_s, wo_tb, h1, c]; rfl
      have := dst_lay hp ht h2
      omega
theorem dst_pre (hp : S.1 ≤ 14) (ht : to < S.1) {i r : Nat} (h : dst S to i = r + 1) (hr : r + 1 < 1000000) : ∃ o, o < S.1 ∧ 0 < S.2.1 o i ∧ dst S to o = r := by
  rcases dst_cs ht i with q | ⟨q1, q2⟩
  · omega
  · rw [h] at q2
    obtain ⟨o, o1, o2, _, o3⟩ := lay_pre q2
    exact ⟨o, o1, o3, dst_lay hp ht o2⟩
/-- who passes it on: the first who is a step nearer -/
def pkH (S : SP) (to cur k o : Nat) : Bool := decide (0 < S.2.1 o cur) && decide (dst S to o = k)
def hpN (S : SP) (to cur k : Nat) : Nat := (fsI (pkH S to cur k) S.1 0).getD 0
def hpL (S : SP) (to : Nat) : Nat → Nat → List Nat
  | 0, _ => []
  | k + 1, cur => hpN S to cur (k + 1) :: hpL S to k (hpN S to cur (k + 1))
theorem hpN_ok (hp : S.1 ≤ 14) (ht : to < S.1) {cur k : Nat} (h : dst S to cur = k + 1) (hk : k + 1 < 1000000) : fsI (pkH S to cur k) S.1 0 = some (hpN S to cur k) ∧ hpN S to cur k < S.1 ∧ pkH S to cur k (hpN S to cur k) = true := by
  obtain ⟨o, o1, o2, o3⟩ := dst_pre hp ht h hk
  have hne : fsI (pkH S to cur k) S.1 0 ≠ none := fsI_some _ _ ⟨o, by omega, by omega, by unfold pkH; rw [decide_eq_true o2, decide_eq_true o3]; rfl⟩
  unfold hpN
  cases e : fsI (pkH S to cur k) S.1 0 with
  | none => exact absurd e hne
  | some v =>
    obtain ⟨_, v2, v3⟩ := fsI_lt _ _ _ e
    exact ⟨rfl, by show v < _; omega, v3⟩
theorem fsI_min {P : Nat → Bool} : ∀ m i v, fsI P m i = some v → ∀ j, i ≤ j → j < v → P j = false
  | 0, _, _, h => absurd h (by simp [fsI])
  | m + 1, i, v, h => fun j h1 h2 => by
    rw [fsI] at h
    by_cases c : P i = true
    · rw [if_pos c] at h
      have := Option.some.inj h
      omega
    · rw [if_neg c] at h
      by_cases e : j = i
      · subst e
        cases z : P j with
        | false => rfl
        | true => exact absurd z c
      · exact fsI_min m (i + 1) v h j (by omega) h2
end HP
theorem ntz_v {x l : Nat} (h1 : x.testBit l = true) (h2 : ∀ j, j < l → x.testBit j = false) : wo (x - 1) x = 2 ^ l - 1 := by
  have hm : x % 2 ^ (l + 1) = 2 ^ l := nat_ext fun j => by
    rw [Nat.testBit_mod_two_pow, tb_p2]
    rcases Nat.lt_trichotomy j l with q | q | q
    · rw [h2 j q, decide_eq_false (show ¬ l = j by omega), Bool.and_false]
    · subst q; rw [h1, decide_eq_true rfl, decide_eq_true (show j < j + 1 by omega)]; rfl
    · rw [decide_eq_false (show ¬ j < l + 1 by omega), decide_eq_false (show ¬ l = j by omega)]; rfl
  have hx : x = 2 ^ (l + 1) * (x / 2 ^ (l + 1)) + 2 ^ l := by
    have := Nat.div_add_mod x (2 ^ (l + 1))
    omega
  have hl1 : 1 ≤ 2 ^ l := Nat.one_le_two_pow
  have hl2 : 2 ^ l < 2 ^ (l + 1) := Nat.pow_lt_pow_right (by omega) (by omega)
  have hx1 : x - 1 = 2 ^ (l + 1) * (x / 2 ^ (l + 1)) + (2 ^ l - 1) := by omega
  refine nat_ext fun j => ?_
  rw [wo_tb, tb_ev]
  have e1 : (x - 1).testBit j = if j < l + 1 then (2 ^ l - 1).testBit j else (x / 2 ^ (l + 1)).testBit (j - (l + 1)) := by
    conv => lhs; rw [hx1]
    exact Nat.testBit_two_pow_mul_add _ (by omega) j
  have e2 : x.testBit j = if j < l + 1 then (2 ^ l).testBit j else (x / 2 ^ (l + 1)).testBit (j - (l + 1)) := by
    conv => lhs; rw [hx]
    exact Nat.testBit_two_pow_mul_add _ hl2 j
  rw [e1, e2]
  by_cases c : j < l + 1
  · rw [if_pos c, if_pos c, tb_ev, tb_p2]
    by_cases c2 : j < l
    · rw [decide_eq_true c2, decide_eq_false (show ¬ l = j by omega)]; rfl
    · rw [decide_eq_false c2]; rfl
  · rw [if_neg c, if_neg c, decide_eq_false (show ¬ j < l by omega)]
    cases (x / 2 ^ (l + 1)).testBit (j - (l + 1)) <;> rfl
theorem jd_ntz {x l : Nat} (μ : Mem) (hx : x < 2 ^ 31) (hl : l < 14) (h1 : x.testBit l = true) (h2 : ∀ j, j < l → x.testBit j = false) : f_jd_numberOfTrailingZeros (nI x) μ = some (nI l, μ) := by
  have hx0 : 1 ≤ x := by
    rcases Nat.eq_zero_or_pos x with q | q
    · rw [q, tb_0] at h1; exact absurd h1 (by decide)
    · exact q
  unfold f_jd_numberOfTrailingZeros
  rw [l_1, i_sub hx0, Int32.and_comm, show -nI 1 = (-1 : Int32) from rfl, i_wo, ntz_v h1 h2, bnd_s]
  have : l = 0 ∨ l = 1 ∨ l = 2 ∨ l = 3 ∨ l = 4 ∨ l = 5 ∨ l = 6 ∨ l = 7 ∨ l = 8 ∨ l = 9 ∨ l = 10 ∨ l = 11 ∨ l = 12 ∨ l = 13 := by omega
  rcases this with rfl | rfl | rfl | rfl | rfl | rfl | rfl | rfl | rfl | rfl | rfl | rfl | rfl | rfl <;> rfl
section OPS
variable {N : Nat} {a : Ab} {b : Nat × Nat} {μ0 μ : Mem} {Q : Nat} {S : SP} {to : Nat}
theorem XI.near (h : XI N b a μ0 μ) (i : Nat) (x : Int32) : XI N b a μ0 (setI μ (vSt 0 7) i x) := by
  have e : ∀ v, v ≠ 12 → (setI μ (vSt 0 7) i x).1 v = μ.1 v := fun v hv => sI_v _ _ _ hv
  obtain ⟨w, ⟨p1, p2, p3, p4, p5, p6⟩, hQ, hI⟩ := h
  refine ⟨w, ⟨p1.of (fun j _ _ _ _ _ h7 => e _ (by show 5 + 22 * 0 + j ≠ 12; omega)), ⟨fun i hi => by rw [e _ (by decide)]; exact p2.1 i hi, by rw [e _ (by decide)]; exact p2.2.1, fun d hd => by rw [e _ (by decide)]; exact p2.2.2 d hd⟩, ⟨by rw [e _ (by decide)]; exact p3.1, fun k hk => by rw [e _ (by decide)]; exact p3.2 k hk⟩, ⟨by rw [e _ (by decide)]; exact p4.1, fun k hk => p4.2 k hk⟩, p5.of (by omega) (e _ (by decide)) (fun j hj => e _ (by show 5 + 22 * 1 + j ≠ 12; omega)), p6.of (by omega) (e _ (by decide)) (fun j hj => e _ (by show 5 + 22 * 2 + j ≠ 12; omega))⟩, hQ.of (e _ (by decide)) (fun v h1 h2 => e v (by omega)) (fun _ _ _ => rfl) rfl, hI.tr (OFr.I _ _ _ (by decide))⟩
def NR (S : SP) (to k : Nat) (μ : Mem) : Prop := ∀ j, j ≤ k → μ.1 (vSt 0 7) j = nI (lay S to j)
theorem x_back_lp (hp : (aS a).1 ≤ 14) (ht : to < (aS a).1) {D : Nat} (hD : D < (aS a).1) : ∀ k cur g r a' (μ : Mem), a' = aSetR a r → k < g → r.length + k ≤ 14 → cur < (aS a).1 → dst (aS a) to cur = k + 1 → k + 1 ≤ D → XI N b a' μ0 μ → NR (aS a) to D μ → ∃ μ', f_st_passOn_b110 g (nI D) (nI cur) (nI k) μ = some (nI D, μ') ∧ XI N b (aSetR a (r ++ rwN (hpL (aS a) to k cur))) μ0 μ' := by
  intro k
  induction k with
  | zero =>
    intro cur g r a' μ ha hg hr hc hd hk h hM
    obtain ⟨g, rfl⟩ : ∃ z, g = z + 1 := ⟨g - 1, by omega⟩
    refine ⟨μ, ?_, ?_⟩
    · rw [f_st_passOn_b110, if_pos (show nI 0 ≤ 0 by decide)]
    · show XI N b (aSetR a (r ++ [])) μ0 μ
      rw [List.append_nil, ← ha]
      exact h
  | succ k ih =>
    intro cur g r a' μ ha hg hr hc hd hk h hM
    obtain ⟨g, rfl⟩ : ∃ z, g = z + 1 := ⟨g - 1, by omega⟩
    subst ha
    have h14 := p2_14 hp
    obtain ⟨e1, e2, e3⟩ := hpN_ok hp ht hd (by omega)
    have hB : XB (aS a) μ := h.2.1.1
    have hpc : 2 ^ cur < 2 ^ (aS a).1 := Nat.pow_lt_pow_right (by omega) hc
    have hx : hrs (aS a) (2 ^ cur) &&& lay (aS a) to (k + 1) < 2 ^ (aS a).1 := and_lt (hrs_lt _ _)
    have htb : ∀ o, o < (aS a).1 → (hrs (aS a) (2 ^ cur) &&& lay (aS a) to (k + 1)).testBit o = pkH (aS a) to cur (k + 1) o := fun o ho => by
      rw [Bool.eq_iff_iff, Nat.testBit_and, Bool.and_eq_true, hrs_tb]
      unfold pkH
      rw [Bool.and_eq_true, decide_eq_true_iff, decide_eq_true_iff]
      constructor
      · rintro ⟨⟨_, j, j1, j2, j3⟩, g2⟩
        rw [tb_p2, decide_eq_true_iff] at j3
        subst j3
        exact ⟨j2, dst_lay hp ht g2⟩
      · rintro ⟨g1, g2⟩
        refine ⟨⟨ho, cur, hc, g1, by rw [tb_p2]; simp⟩, ?_⟩
        rcases dst_cs ht o with q | ⟨q1, q2⟩
        · omega
        · rw [g2] at q2; exact q2
    obtain ⟨μ2, a1, a2, a3⟩ := rw_add (nI (hpN (aS a) to cur (k + 1))).toInt64 h.2.1.2.2.2.1 (by show r.length < 16; omega)
    have hxr : XI N b (aSetR a (r ++ [(nI (hpN (aS a) to cur (k + 1))).toInt64])) μ0 μ2 := h.row (by show (r ++ [_]).length ≤ 16; rw [List.length_append, List.length_singleton]; omega) a2 a3
    have hM2 : NR (aS a) to D μ2 := fun j hj => by rw [a3.1 _ (by decide)]; exact hM j hj
    have hdn : dst (aS a) to (hpN (aS a) to cur (k + 1)) = k + 1 := by
      unfold pkH at e3
      rw [Bool.and_eq_true, decide_eq_true_iff, decide_eq_true_iff] at e3
      exact e3.2
    obtain ⟨μ', k1, k2⟩ := ih (hpN (aS a) to cur (k + 1)) g (r ++ [(nI (hpN (aS a) to cur (k + 1))).toInt64]) _ μ2 rfl (by omega) (by rw [List.length_append, List.length_singleton]; omega) e2 hdn (by omega) hxr hM2
    refine ⟨μ', ?_, ?_⟩
    · rw [f_st_passOn_b110, if_neg (show ¬ nI (k + 1) ≤ 0 from fun q => absurd ((i_leN (b := 0) (by omega) (by omega)).mp q) (by omega)), i_one (by omega), st_hrs hB hpc, bd2_s, inb_n (by omega) (by omega), chk_t, cl_nI (by omega), hM (k + 1) (by omega), i_and, jd_ntz μ (by omega) (l := hpN (aS a) to cur (k + 1)) (by omega) (by rw [htb _ e2]; exact e3) (fun j hj => by rw [htb j (by omega)]; exact fsI_min _ _ _ e1 j (by omega) hj), bd2_s, a1, bd1_s, i_dec (by omega), Nat.add_sub_cancel]
      exact k1
    · rw [hpL]
      show XI N b (aSetR a (r ++ ((nI (hpN (aS a) to cur (k + 1))).toInt64 :: rwN _))) μ0 μ'
      rw [show r ++ ((nI (hpN (aS a) to cur (k + 1))).toInt64 :: rwN (hpL (aS a) to k (hpN (aS a) to cur (k + 1)))) = (r ++ [(nI (hpN (aS a) to cur (k + 1))).toInt64]) ++ rwN (hpL (aS a) to k (hpN (aS a) to cur (k + 1))) by rw [List.append_assoc]; rfl]
      exact k2
/-- what hops answers and tells -/
def hpA (a : Ab) (fr to : Nat) : Int32 × Ab := if dst (aS a) to fr = 1000000 then (-2, a) else (nI (dst (aS a) to fr), aSetR a (rwN (hpL (aS a) to (dst (aS a) to fr - 1) fr)))
theorem x_pass80 (hN : N < 600) (hp : (aS a).1 ≤ 14) (ht : to < (aS a).1) {fr k : Nat} (hf : fr < (aS a).1) (hk : k ≤ 14) (hend : k = 14 ∨ (lay (aS a) to k).testBit fr = true) (hno : ∀ j, j < k → (lay (aS a) to j).testBit fr = false) (h : XI N b a μ0 μ) (hM : NR (aS a) to k μ) : ∃ μ', f_st_passOn_b80 (nI fr) (nI k) μ = some ((hpA a fr to).1, μ') ∧ XO N (hpA a fr to).2 μ0 μ' := by
  have h14 := p2_14 hp
  have hl := (lay_lt ht k).1
  unfold f_st_passOn_b80 hpA
  rw [inb_n (by omega) (by omega), chk_t, cl_nI (by omega), hM k (Nat.le_refl _), i_bit (by omega) (by omega)]
  cases c : (lay (aS a) to k).testBit fr with
  | false =>
    have hk14 : k = 14 := hend.resolve_right (by rw [c]; decide)
    have hd : dst (aS a) to fr = 1000000 := by
      rcases dst_cs ht fr with q | ⟨q1, q2⟩
      · exact q.1
      · by_cases z : dst (aS a) to fr < k
        · rw [hno _ z] at q2; exact absurd q2 (by decide)
        · omega
    rw [if_pos (by decide), if_pos hd]
    exact ⟨μ, rfl, h.done hN⟩
  | true =>
    have hd : dst (aS a) to fr = k := dst_lay hp ht c
    have hkp := lay_p ht c
    rw [if_neg (by decide), hd, if_neg (by omega)]
    obtain ⟨μ1, a1, a2, a3⟩ := rw_clear μ
    have hx := h.row (r := []) (by simp) a2 a3
    have hM1 : NR (aS a) to k μ1 := fun j hj => by rw [a3.1 _ (by decide)]; exact hM j hj
    rw [a1, bd1_s]
    by_cases c0 : k = 0
    · subst c0
      refine ⟨μ1, ?_, hx.done hN⟩
      rw [show FU = (FU - 1) + 1 from rfl, f_st_passOn_b110, if_pos (show nI 0 - 1 ≤ 0 by decide)]
    · obtain ⟨k', rfl⟩ : ∃ z, k = z + 1 := ⟨k - 1, by omega⟩
      obtain ⟨μ', k1, k2⟩ := x_back_lp hp ht (D := k' + 1) (by omega) k' fr FU [] _ μ1 rfl (by unfold FU; omega) (by simp; omega) hf hd (by omega) hx hM1
      refine ⟨μ', ?_, k2.done hN⟩
      rw [l_1, i_sub (by omega), Nat.add_sub_cancel]
      exact k1
theorem x_pass_lp (hN : N < 600) (hp : (aS a).1 ≤ 14) (ht : to < (aS a).1) {fr : Nat} (hf : fr < (aS a).1) : ∀ m k g (μ : Mem), k + m = 14 → m < g → XI N b a μ0 μ → NR (aS a) to k μ → (∀ j, j < k → (lay (aS a) to j).testBit fr = false) → ∃ μ', f_st_passOn_b16 g (nI fr) (nI (lsn (aS a) to k)) (nI k) μ = some ((hpA a fr to).1, μ') ∧ XO N (hpA a fr to).2 μ0 μ' := by
  intro m
  induction m with
  | zero =>
    intro k g μ hk hg h hM hno
    obtain ⟨g, rfl⟩ : ∃ z, g = z + 1 := ⟨g - 1, by omega⟩
    rw [f_st_passOn_b16, l_14, if_pos ((i_leN (by omega) (by omega)).mpr (by omega))]
    exact x_pass80 hN hp ht hf (by omega) (Or.inl (by omega)) hno h hM
  | succ m ih =>
    intro k g μ hk hg h hM hno
    obtain ⟨g, rfl⟩ : ∃ z, g = z + 1 := ⟨g - 1, by omega⟩
    have h14 := p2_14 hp
    have hl := (lay_lt ht k).1
    rw [f_st_passOn_b16, l_14, if_neg (fun q => absurd ((i_leN (by omega) (by omega)).mp q) (by omega)), inb_n (by omega) (by omega), chk_t, cl_nI (by omega), hM k (Nat.le_refl _), i_bit (by omega) (by omega)]
    cases c : (lay (aS a) to k).testBit fr with
    | true =>
      rw [if_neg (by decide)]
      exact x_pass80 hN hp ht hf (by omega) (Or.inr c) hno h hM
    | false =>
      have hx := h.near (k + 1) (nI (lay (aS a) to (k + 1)))
      have := ih (k + 1) g _ (by omega) (by omega) hx (fun j hj => by
        by_cases e : j = k + 1
        · rw [e, sI_eq]
        · rw [sI_i _ _ _ e]; exact hM j (by omega)) (fun j hj => by
        by_cases e : j = k
        · subst e; exact c
        · exact hno j (by omega))
      rw [if_pos (by decide), chk_t, st_hba h.2.1.1 hl, bd2_s, l_1, i_add, inb_n (by omega) (by omega), chk_t, cl_nI (by omega), show -nI 1 = (-1 : Int32) from rfl, i_wo, bnd_s, chk_t, sI_eq, i_or, bnd_s]
      exact this
theorem x_pass (hN : N < 600) (hp : (aS a).1 ≤ 14) (ht : to < (aS a).1) {fr : Nat} (hf : fr < (aS a).1) (h : XI N b a μ0 μ) : ∃ μ', f_st_passOn (nI fr) (nI to) μ = some ((hpA a fr to).1, μ') ∧ XO N (hpA a fr to).2 μ0 μ' := by
  have hx := h.near 0 (nI (2 ^ to))
  have := x_pass_lp hN hp ht hf 14 0 FU _ (by omega) (by unfold FU; omega) hx (fun j hj => by
    obtain rfl : j = 0 := by omega
    rw [sI_eq]; rfl) (fun j hj => absurd hj (by omega))
  unfold f_st_passOn
  rw [show inb (0 : Int32) 15 = true from rfl, chk_t, i_one (by omega), show ((0 : Int32).toNatClampNeg) = 0 from rfl, bnd_s]
  exact this
end OPS
