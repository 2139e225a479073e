/-! Sets that grow or shrink until they stand; part. -/
def sub (A B : Nat) : Prop := ∀ j, A.testBit j = true → B.testBit j = true
theorem sub_rf (A : Nat) : sub A A := fun _ h => h
theorem sub_tr {A B C : Nat} (h : sub A B) (k : sub B C) : sub A C := fun j q => k j (h j q)
theorem sub_eq {A B : Nat} (h : sub A B) (k : sub B A) : A = B := nat_ext fun j => by
  cases ha : A.testBit j with
  | true => exact (h j ha).symm
  | false =>
    cases hb : B.testBit j with
    | false => rfl
    | true => rw [k j hb] at ha; exact absurd ha (by decide)
theorem sub_or1 (A B : Nat) : sub A (A ||| B) := fun j h => by rw [Nat.testBit_or, h]; rfl
theorem sub_or {A B C : Nat} (h : sub A C) (k : sub B C) : sub (A ||| B) C := fun j q => by
  rw [Nat.testBit_or, Bool.or_eq_true] at q
  exact q.elim (h j) (k j)
def crd (p A : Nat) : Nat := sm (fun i => bN (A.testBit i)) p
theorem bN_mono {x y : Bool} (h : x = true → y = true) : bN x ≤ bN y := by
  cases x with
  | false => exact Nat.zero_le _
  | true => rw [h rfl]; exact Nat.le_refl _
theorem crd_mono {p A B : Nat} (h : sub A B) : crd p A ≤ crd p B := sm_mono p (fun i _ => bN_mono (h i))
theorem crd_le (p A : Nat) : crd p A ≤ p := by
  have := sm_le (f := fun i => bN (A.testBit i)) (c := 1) p (fun i _ => bN_lt _)
  unfold crd
  omega
theorem sm_lt {f g : Nat → Nat} : ∀ n, (∀ i, i < n → f i ≤ g i) → (∃ i, i < n ∧ f i < g i) → sm f n < sm g n
  | 0, _, ⟨i, h, _⟩ => absurd h (by omega)
  | n + 1, h, ⟨i, h1, h2⟩ => by
    rw [sm, sm]
    have hl := h n (by omega)
    by_cases e : i = n
    · subst e
      have := sm_mono i (fun j hj => h j (by omega))
      omega
    · have := sm_lt n (fun j hj => h j (by omega)) ⟨i, by omega, h2⟩
      omega
theorem crd_lt {p A B : Nat} (hB : B < 2 ^ p) (h : sub A B) (hne : A ≠ B) : crd p A < crd p B := by
  refine sm_lt p (fun i _ => bN_mono (h i)) ?_
  obtain ⟨j, hj⟩ : ∃ j, ¬ (B.testBit j = true → A.testBit j = true) := Classical.byContradiction fun q => hne (sub_eq h (fun j hb => Classical.byContradiction fun r => q ⟨j, fun s => r (s hb)⟩))
  have hb : B.testBit j = true := Classical.byContradiction fun q => hj (fun r => absurd r q)
  have ha : A.testBit j = false := by
    cases q : A.testBit j with
    | false => rfl
    | true => exact absurd (fun _ => q) hj
  refine ⟨j, ?_, by rw [ha, hb]; decide⟩
  rcases Nat.lt_or_ge j p with q | q
  · exact q
  · rw [tb_lt hB q] at hb; exact absurd hb (by decide)
def itF (F : Nat → Nat) : Nat → Nat → Nat
  | 0, T => T
  | k + 1, T => itF F k (F T)
theorem itF_s (F : Nat → Nat) : ∀ k T, itF F (k + 1) T = F (itF F k T)
  | 0, _ => rfl
  | k + 1, T => by rw [itF, itF_s F k (F T)]; rfl
/-- a step that makes a measure less, or does nothing, stands behind as many steps as the measure allows -/
theorem itF_fix {F : Nat → Nat} {m : Nat → Nat} {P : Nat → Prop} (hP : ∀ T, P T → P (F T)) (h : ∀ T, P T → F T = T ∨ m (F T) < m T) : ∀ k T, P T → m T ≤ k → F (itF F k T) = itF F k T
  | 0, T, hT, hm => by
    rcases h T hT with q | q
    · exact q
    · omega
  | k + 1, T, hT, hm => by
    rw [itF]
    rcases h T hT with q | q
    · have e : ∀ k, itF F k T = T := fun k => by
        induction k with
        | zero => rfl
        | succ k ih => rw [itF, q]; exact ih
      rw [q, e k, q]
    · exact itF_fix hP h k (F T) (hP T hT) (by omega)
theorem itF_P {F : Nat → Nat} {P : Nat → Prop} (hP : ∀ T, P T → P (F T)) : ∀ k T, P T → P (itF F k T)
  | 0, _, h => h
  | k + 1, T, h => itF_P hP k (F T) (hP T h)
def adj (S : SP) (i j : Nat) : Prop := 0 < S.2.1 i j + S.2.1 j i
/-- closed under acquaintance -/
def clo (S : SP) (T : Nat) : Prop := ∀ i j, i < S.1 → j < S.1 → T.testBit i = true → adj S i j → T.testBit j = true
def isPart (S : SP) (i T : Nat) : Prop := T < 2 ^ S.1 ∧ T.testBit i = true ∧ clo S T ∧ ∀ C, C.testBit i = true → clo S C → sub T C
theorem isPart_u {S : SP} {i T U : Nat} (h : isPart S i T) (k : isPart S i U) : T = U := sub_eq (h.2.2.2 U k.2.1 k.2.2.1) (k.2.2.2 T h.2.1 h.2.2.1)
def nbr (S : SP) (T : Nat) : Nat := T ||| (hrs S T ||| hba S T S.1)
theorem nbr_lt {S : SP} {T : Nat} (h : T < 2 ^ S.1) : nbr S T < 2 ^ S.1 := or_lt h (or_lt (hrs_lt S T) (hba_lt S T _))
theorem nbr_tb {S : SP} {T : Nat} (j : Nat) : (nbr S T).testBit j = true ↔ T.testBit j = true ∨ (j < S.1 ∧ ∃ i, i < S.1 ∧ T.testBit i = true ∧ adj S i j) := by
  unfold nbr adj
  rw [Nat.testBit_or, Nat.testBit_or, Bool.or_eq_true, Bool.or_eq_true, hrs_tb, hba_tb]
  constructor
  · rintro (h | ⟨h1, i, h2, h3, h4⟩ | ⟨i, h1, h2, h3, h4⟩)
    · exact Or.inl h
    · exact Or.inr ⟨h1, i, h2, h4, by omega⟩
    · exact Or.inr ⟨h3, i, h1, h2, by omega⟩
  · rintro (h | ⟨h1, i, h2, h3, h4⟩)
    · exact Or.inl h
    · by_cases c : 0 < S.2.1 j i
      · exact Or.inr (Or.inl ⟨h1, i, h2, c, h3⟩)
      · exact Or.inr (Or.inr ⟨i, h2, h3, h1, by omega⟩)
theorem part_x {S : SP} {i : Nat} (hi : i < S.1) : isPart S i (itF (nbr S) S.1 (2 ^ i)) := by
  have hl : 2 ^ i < 2 ^ S.1 := Nat.pow_lt_pow_right (by omega) hi
  have hP := itF_P (F := nbr S) (P := fun T => T < 2 ^ S.1 ∧ T.testBit i = true) (fun T h => ⟨nbr_lt h.1, (nbr_tb i).mpr (Or.inl h.2)⟩) S.1 (2 ^ i) ⟨hl, by rw [tb_p2]; simp⟩
  have hfix := itF_fix (F := nbr S) (m := fun T => S.1 - crd S.1 T) (P := fun T => T < 2 ^ S.1) (fun T h => nbr_lt h) (fun T h => by
    by_cases e : nbr S T = T
    · exact Or.inl e
    · right
      have h1 := crd_lt (nbr_lt h) (show sub T (nbr S T) from fun j q => (nbr_tb j).mpr (Or.inl q)) (fun q => e q.symm)
      have h2 := crd_le S.1 (nbr S T)
      show S.1 - crd S.1 (nbr S T) < S.1 - crd S.1 T
      omega) S.1 (2 ^ i) hl (by show S.1 - _ ≤ S.1; omega)
  refine ⟨hP.1, hP.2, fun x y hx hy h1 h2 => ?_, fun C h1 h2 => ?_⟩
  · rw [← hfix]
    exact (nbr_tb y).mpr (Or.inr ⟨hy, x, hx, h1, h2⟩)
  · refine itF_P (F := nbr S) (P := fun T => sub T C) (fun T h j q => ?_) S.1 (2 ^ i) (fun j q => ?_)
    · rcases (nbr_tb j).mp q with q | ⟨q1, x, q2, q3, q4⟩
      · exact h j q
      · exact h2 x j q2 q1 (h x q3) q4
    · rw [tb_p2, decide_eq_true_iff] at q
      rw [← q]; exact h1
section OPS
variable {N : Nat} {a : Ab} {b : Nat × Nat} {μ0 μ : Mem} {Q : Nat} {S : SP}
def prt (S : SP) (i : Nat) : Nat := itF (nbr S) S.1 (2 ^ i)
theorem st_part_lp (h : XB S μ) : ∀ m i n T, i + m = S.1 → m < n → T < 2 ^ S.1 → f_st_partOf_b6 n (nI T) (nI i) μ = some (nI (itF (nbr S) m T), μ) := by
  have hp := h.2.2.2.2.1
  have h0 := h.1
  intro m
  induction m with
  | zero =>
    intro i n T hi hn hT
    obtain ⟨n, rfl⟩ : ∃ z, n = z + 1 := ⟨n - 1, by omega⟩
    obtain rfl : i = S.1 := by omega
    simp (disch := omega) only [l_0, l_1, l_2, l_3, l_4, l_5, l_6, l_7, l_8, l_9, l_10, l_14, l_15, l_16, l_20, l_31, l_40, l_48, l_50, l_57, l_60, l_64, l_76, l_80, l_99, l_100, l_127, l_196, l_200, l_201, l_202, l_255, l_412, l_999, l_1000, l_16000, l_1000000, i_add, i_mul, i_sub, i_leN, i_ltN, i_eqN, i_nleG, i_nltG, inb_n, cl_nI, chk_q, bnd_q, bd1_q, bd2_q, i_bitQ, i_oneQ, i_woQ, i_or, i_and, i_xor, zb_q0, zb_q1, zb_b, b_0Q, if_true, if_false, reduceCtorEq, if_pos, if_neg, f_st_partOf_b6, h0]
    rfl
  | succ m ih =>
    intro i n T hi hn hT
    obtain ⟨n, rfl⟩ : ∃ z, n = z + 1 := ⟨n - 1, by omega⟩
    have := ih (i + 1) n (nbr S T) (by omega) (by omega) (nbr_lt hT)
    rw [itF, ← this]
    simp (disch := omega) only [l_0, l_1, l_2, l_3, l_4, l_5, l_6, l_7, l_8, l_9, l_10, l_14, l_15, l_16, l_20, l_31, l_40, l_48, l_50, l_57, l_60, l_64, l_76, l_80, l_99, l_100, l_127, l_196, l_200, l_201, l_202, l_255, l_412, l_999, l_1000, l_16000, l_1000000, i_add, i_mul, i_sub, i_leN, i_ltN, i_eqN, i_nleG, i_nltG, inb_n, cl_nI, chk_q, bnd_q, bd1_q, bd2_q, i_bitQ, i_oneQ, i_woQ, i_or, i_and, i_xor, zb_q0, zb_q1, zb_b, b_0Q, if_true, if_false, reduceCtorEq, if_pos, if_neg, f_st_partOf_b6, h0, st_hrs h hT, st_hba h hT]
    rfl
theorem st_part (h : XB S μ) {i : Nat} (hi : i < S.1) : f_st_partOf (nI i) μ = some (nI (prt S i), μ) := by
  have hp := h.2.2.2.2.1
  unfold f_st_partOf
  rw [i_one (by omega)]
  exact st_part_lp h S.1 0 FU (2 ^ i) (by omega) (by unfold FU; omega) (Nat.pow_lt_pow_right (by omega) hi)
end OPS
