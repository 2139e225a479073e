/-! fall, falls. -/
def zL (z : Int) : Int64 := Int64.ofInt z
theorem z_add (x y : Int) : zL x + zL y = zL (x + y) := (Int64.ofInt_add x y).symm
theorem z_mul (x y : Int) : zL x * zL y = zL (x * y) := (Int64.ofInt_mul x y).symm
theorem z_sub (x y : Int) : zL x - zL y = zL (x - y) := (Int64.ofInt_sub x y).symm
theorem z_nI {n : Nat} (h : n < 2 ^ 31) : (nI n).toInt64 = zL (n : Int) := by
  apply Int64.toInt_inj.mp
  rw [Int32.toInt_toInt64, i_tI h]
  exact (Int64.toInt_ofInt_of_le (by omega) (by omega)).symm
theorem z_toInt {z : Int} (h : -2 ^ 40 < z) (h2 : z < 2 ^ 40) : (zL z).toInt = z := Int64.toInt_ofInt_of_le (by omega) (by omega)
theorem z_2 : (2 : Int64) = zL 2 := rfl
theorem z_1 : (1 : Int64) = zL 1 := rfl
theorem z_0 : (0 : Int64) = zL 0 := rfl
theorem z_200 : (200 : Int64) = zL 200 := rfl
def smI (f : Nat → Int) : Nat → Int
  | 0 => 0
  | n + 1 => smI f n + f n
theorem smI_b {f : Nat → Int} {c : Int} : ∀ n, (∀ i, i < n → -c ≤ f i ∧ f i ≤ c) → -((n : Int) * c) ≤ smI f n ∧ smI f n ≤ (n : Int) * c
  | 0, _ => by rw [smI]; simp
  | n + 1, h => by
    have h1 := smI_b n (fun i hi => h i (by omega))
    have h2 := h n (by omega)
    rw [smI, show ((n + 1 : Nat) : Int) * c = (n : Int) * c + c by rw [Int.natCast_add, Int.add_mul]; simp]
    omega
def fM (S : SP) (s t i : Nat) : Int := if mvd S i then ((bN (s.testBit i) + bN (t.testBit i) : Nat) : Int) * (2 * (S.2.2.1 i : Int) * (allS S i : Int) + 1) else 0
def fH (S : SP) (s t i : Nat) : Int := if s.testBit i then 200 * (hrd S i t : Int) else 0
def fal (S : SP) (s t : Nat) : Int := smI (fun i => fM S s t i - fH S s t i) S.1
theorem fal_b {S : SP} (h : SOk S) (s t : Nat) : -2000000 < fal S s t ∧ fal S s t < 2000000 := by
  have h1 := smI_b (f := fun i => fM S s t i - fH S s t i) (c := 100000) S.1 (fun i hi => by
    have ha := allS_le h i
    have hn := h.2.2.1 i hi
    have hh := hrd_le (S := S) i t
    have hm : S.2.2.1 i * allS S i ≤ 99 * 126 := Nat.mul_le_mul hn ha
    have hm' : (S.2.2.1 i : Int) * (allS S i : Int) ≤ 99 * 126 := by exact_mod_cast hm
    have hm0 : 0 ≤ (S.2.2.1 i : Int) * (allS S i : Int) := Int.mul_nonneg (by omega) (by omega)
    have e1 : 0 ≤ fM S s t i ∧ fM S s t i ≤ 2 * 24949 := by
      unfold fM
      split
      · rw [Int.mul_assoc]
        have b1 := bN_lt (s.testBit i)
        have b2 := bN_lt (t.testBit i)
        have hc : bN (s.testBit i) + bN (t.testBit i) = 0 ∨ bN (s.testBit i) + bN (t.testBit i) = 1 ∨ bN (s.testBit i) + bN (t.testBit i) = 2 := by omega
        rcases hc with e | e | e <;> rw [e] <;> omega
      · omega
    have e2 : 0 ≤ fH S s t i ∧ fH S s t i ≤ 25200 := by
      unfold fH
      split <;> omega
    show -100000 ≤ fM S s t i - fH S s t i ∧ fM S s t i - fH S s t i ≤ 100000
    omega)
  have hp := h.1
  unfold fal
  have : (S.1 : Int) * 100000 ≤ 1400000 := by omega
  omega
section OPS
variable {N : Nat} {a : Ab} {b : Nat × Nat} {μ0 μ : Mem} {Q : Nat} {S : SP}
theorem x_fall_lp (h : XB S μ) {s t : Nat} (hs : s < 2 ^ 31) (ht : t < 2 ^ 31) : ∀ m i n, i + m = S.1 → m < n → f_st_fallOf_b22 n (nI s) (nI t) (zL (smI (fun i => fM S s t i - fH S s t i) i)) (nI i) μ = some (zL (fal S s t), μ) := by
  have hp := h.2.2.2.2.1
  have h0 := h.1
  have h3 := h.2.2.1
  intro m
  induction m with
  | zero =>
    intro i n hi hn
    obtain ⟨n, rfl⟩ : ∃ z, n = z + 1 := ⟨n - 1, by omega⟩
    obtain rfl : i = S.1 := by omega
    simp (disch := omega) only [l_0, l_1, l_2, l_3, l_4, l_5, l_6, l_7, l_8, l_9, l_10, l_14, l_15, l_16, l_20, l_31, l_40, l_48, l_50, l_57, l_60, l_64, l_76, l_80, l_99, l_100, l_127, l_196, l_200, l_201, l_202, l_255, l_412, l_999, l_1000, l_16000, l_1000000, i_add, i_mul, i_sub, i_leN, i_ltN, i_eqN, i_nleG, i_nltG, inb_n, cl_nI, chk_q, bnd_q, bd1_q, bd2_q, i_bitQ, i_oneQ, i_woQ, i_or, i_and, i_xor, zb_q0, zb_q1, zb_b, b_0Q, if_true, if_false, reduceCtorEq, if_pos, if_neg, f_st_fallOf_b22, h0]
    rfl
  | succ m ih =>
    intro i n hi hn
    obtain ⟨n, rfl⟩ : ∃ z, n = z + 1 := ⟨n - 1, by omega⟩
    have := ih (i + 1) n (by omega) (by omega)
    rw [smI] at this
    have ha := allS_le h.2.2.2.2 i
    have hh := hrd_le (S := S) i t
    have hn9 := h.2.2.2.2.2.2.1 i (by omega)
    have hb1 := bN_lt (s.testBit i)
    have hb2 := bN_lt (t.testBit i)
    -- behind the moved one's part
    have tail : ∀ y : Int, f_st_fallOf_b95 (f_st_fallOf_b22 n) (nI s) (nI t) (zL y) (nI i) μ = f_st_fallOf_b22 n (nI s) (nI t) (zL (y - fH S s t i)) (nI (i + 1)) μ := by
      intro y
      unfold fH
      cases hsb : s.testBit i with
      | false =>
        rw [if_neg (by decide), Int.sub_zero]
        simp (disch := omega) only [l_0, l_1, l_2, l_3, l_4, l_5, l_6, l_7, l_8, l_9, l_10, l_14, l_15, l_16, l_20, l_31, l_40, l_48, l_50, l_57, l_60, l_64, l_76, l_80, l_99, l_100, l_127, l_196, l_200, l_201, l_202, l_255, l_412, l_999, l_1000, l_16000, l_1000000, i_add, i_mul, i_sub, i_leN, i_ltN, i_eqN, i_nleG, i_nltG, inb_n, cl_nI, chk_q, bnd_q, bd1_q, bd2_q, i_bitQ, i_oneQ, i_woQ, i_or, i_and, i_xor, zb_q0, zb_q1, zb_b, b_0Q, if_true, if_false, reduceCtorEq, if_pos, if_neg, f_st_fallOf_b95, hsb]
      | true =>
        rw [if_pos rfl]
        simp (disch := omega) only [l_0, l_1, l_2, l_3, l_4, l_5, l_6, l_7, l_8, l_9, l_10, l_14, l_15, l_16, l_20, l_31, l_40, l_48, l_50, l_57, l_60, l_64, l_76, l_80, l_99, l_100, l_127, l_196, l_200, l_201, l_202, l_255, l_412, l_999, l_1000, l_16000, l_1000000, i_add, i_mul, i_sub, i_leN, i_ltN, i_eqN, i_nleG, i_nltG, inb_n, cl_nI, chk_q, bnd_q, bd1_q, bd2_q, i_bitQ, i_oneQ, i_woQ, i_or, i_and, i_xor, zb_q0, zb_q1, zb_b, b_0Q, if_true, if_false, reduceCtorEq, if_pos, if_neg, f_st_fallOf_b95, hsb, st_sumHeard h, z_nI, z_200, z_mul, z_sub]
    have hf := st_isFirm h (i := i) (by omega)
    have hal := st_allOf h (k := i) (by omega)
    rw [f_st_fallOf_b22, h0, if_neg (fun q => absurd ((i_leN (by omega) (by omega)).mp q) (by omega)), hal, bd2_s, bnd_s, hf, bd2_s]
    have hbits : ((nI s >>> (nI i &&& 31)) &&& (1 : Int32)) + ((nI t >>> (nI i &&& 31)) &&& (1 : Int32)) = nI (bN (s.testBit i) + bN (t.testBit i)) := by rw [i_bit hs (by omega), i_bit ht (by omega), i_add]
    have hmv : mvd S i = (!S.2.2.2.testBit i && decide (0 < allS S i)) := rfl
    cases hfb : S.2.2.2.testBit i with
    | true =>
      rw [if_neg (show ¬ nI (bN true) = 0 by decide), tail, ← this]
      have e : fM S s t i = 0 := by unfold fM; rw [hmv, hfb]; rfl
      rw [e, Int.zero_sub, ← Int.sub_eq_add_neg]
    | false =>
      rw [if_pos (show nI (bN false) = 0 by decide)]
      by_cases h00 : allS S i = 0
      · rw [h00, if_pos (show nI 0 ≤ 0 by decide), tail, ← this]
        have e : fM S s t i = 0 := by unfold fM; rw [hmv, hfb, h00]; rfl
        rw [e, Int.zero_sub, ← Int.sub_eq_add_neg]
      · have hle : ¬ nI (allS S i) ≤ 0 := fun q => absurd ((i_leN (a := allS S i) (b := 0) (by omega) (by omega)).mp q) (by omega)
        rw [if_neg hle, inb_n (by omega) (by omega), chk_t, cl_nI (by omega), h3 i (by omega), hbits, z_nI (by omega), z_nI (by omega), z_nI (by omega), z_2, z_mul, z_mul, z_1, z_add, z_mul, z_add, bnd_s, tail, ← this]
        have e : fM S s t i = ((bN (s.testBit i) + bN (t.testBit i) : Nat) : Int) * (2 * (S.2.2.1 i : Int) * (allS S i : Int) + 1) := by
          unfold fM
          rw [hmv, hfb, decide_eq_true (show 0 < allS S i by omega)]
          rfl
        rw [← e, Int.add_sub_assoc]
theorem x_fallOf (hW : WF a) (h : XP a μ) {d : Nat} (h1 : 1 ≤ d) (h2 : d ≤ aD a) : f_st_fallOf (nI d) μ = some (zL (fal (aS a) (aZ a d) (aZ a (d - 1))), μ) := by
  have h200 := hW.2.2.2.1.1
  have e1 := h.2.1.2.2 d h2
  have e2 := h.2.1.2.2 (d - 1) (by omega)
  have l1 := x_fall_lp h.1 (p2_31 hW.1.1 (hW.2.2.2.1.2 d h2)) (p2_31 hW.1.1 (hW.2.2.2.1.2 (d - 1) (by omega))) (aS a).1 0 FU (by omega) (by have := hW.1.1; unfold FU; omega)
  rw [← l1]
  unfold f_st_fallOf
  rw [inb_n (by omega) (by omega), chk_t, cl_nI (by omega), e1, bnd_s, l_1, i_sub h1, inb_n (by omega) (by omega), chk_t, cl_nI (by omega), e2, bnd_s]
  rfl
theorem m_fall_in (h : MB S μ) (k22 : Int32 → Int32 → Int64 → Int32 → Mem → Option (Int64 × Mem)) {s t i : Nat} (hs : s < 2 ^ 31) (ht : t < 2 ^ 31) (hi : i < S.1) (z : Int) : ∀ m o n, o + m = S.1 → m < n → f_m_fallOf_b105 k22 n (nI s) (nI t) (zL (z - if s.testBit i then 200 * ((sm (fun o => bN (t.testBit o) * S.2.1 i o) o : Nat) : Int) else 0)) (nI i) (nI o) μ = k22 (nI s) (nI t) (zL (z - fH S s t i)) (nI (i + 1)) μ := by
  have hp := h.2.2.2.2.1
  have h0 := h.1
  have h2 := h.2.1
  have h9 := h.2.2.2.2.2.1
  intro m
  induction m with
  | zero =>
    intro o n ho hn
    obtain ⟨n, rfl⟩ : ∃ z, n = z + 1 := ⟨n - 1, by omega⟩
    obtain rfl : o = S.1 := by omega
    simp (disch := omega) only [l_0, l_1, l_2, l_3, l_4, l_5, l_6, l_7, l_8, l_9, l_10, l_14, l_15, l_16, l_20, l_31, l_40, l_48, l_50, l_57, l_60, l_64, l_76, l_80, l_99, l_100, l_127, l_196, l_200, l_201, l_202, l_255, l_412, l_999, l_1000, l_16000, l_1000000, i_add, i_mul, i_sub, i_leN, i_ltN, i_eqN, i_nleG, i_nltG, inb_n, cl_nI, chk_q, bnd_q, bd1_q, bd2_q, i_bitQ, i_oneQ, i_woQ, i_or, i_and, i_xor, zb_q0, zb_q1, zb_b, b_0Q, if_true, if_false, reduceCtorEq, if_pos, if_neg, f_m_fallOf_b105, h0]
    rfl
  | succ m ih =>
    intro o n ho hn
    obtain ⟨n, rfl⟩ : ∃ z, n = z + 1 := ⟨n - 1, by omega⟩
    have := ih (o + 1) n (by omega) (by omega)
    have h9o := h9 i o
    rw [sm] at this
    rw [← this]
    cases hsb : s.testBit i with
    | false =>
      rw [if_neg (by decide), if_neg (by decide)]
      simp (disch := omega) only [l_0, l_1, l_2, l_3, l_4, l_5, l_6, l_7, l_8, l_9, l_10, l_14, l_15, l_16, l_20, l_31, l_40, l_48, l_50, l_57, l_60, l_64, l_76, l_80, l_99, l_100, l_127, l_196, l_200, l_201, l_202, l_255, l_412, l_999, l_1000, l_16000, l_1000000, i_add, i_mul, i_sub, i_leN, i_ltN, i_eqN, i_nleG, i_nltG, inb_n, cl_nI, chk_q, bnd_q, bd1_q, bd2_q, i_bitQ, i_oneQ, i_woQ, i_or, i_and, i_xor, zb_q0, zb_q1, zb_b, b_0Q, if_true, if_false, reduceCtorEq, if_pos, if_neg, f_m_fallOf_b105, h0, m_has, hsb]
    | true =>
      rw [if_pos rfl, if_pos rfl]
      cases htb : t.testBit o with
      | false =>
        rw [show bN false = 0 from rfl, Nat.zero_mul]
        simp (disch := omega) only [l_0, l_1, l_2, l_3, l_4, l_5, l_6, l_7, l_8, l_9, l_10, l_14, l_15, l_16, l_20, l_31, l_40, l_48, l_50, l_57, l_60, l_64, l_76, l_80, l_99, l_100, l_127, l_196, l_200, l_201, l_202, l_255, l_412, l_999, l_1000, l_16000, l_1000000, i_add, i_mul, i_sub, i_leN, i_ltN, i_eqN, i_nleG, i_nltG, inb_n, cl_nI, chk_q, bnd_q, bd1_q, bd2_q, i_bitQ, i_oneQ, i_woQ, i_or, i_and, i_xor, zb_q0, zb_q1, zb_b, b_0Q, if_true, if_false, reduceCtorEq, if_pos, if_neg, f_m_fallOf_b105, h0, m_has, hsb, htb, Nat.add_zero]
      | true =>
        rw [show bN true = 1 from rfl, Nat.one_mul]
        have e : z - 200 * ((sm (fun o => bN (t.testBit o) * S.2.1 i o) o + S.2.1 i o : Nat) : Int) = z - 200 * ((sm (fun o => bN (t.testBit o) * S.2.1 i o) o : Nat) : Int) - 200 * (S.2.1 i o : Int) := by
          rw [Int.natCast_add, Int.mul_add]; omega
        rw [e]
        simp (disch := omega) only [l_0, l_1, l_2, l_3, l_4, l_5, l_6, l_7, l_8, l_9, l_10, l_14, l_15, l_16, l_20, l_31, l_40, l_48, l_50, l_57, l_60, l_64, l_76, l_80, l_99, l_100, l_127, l_196, l_200, l_201, l_202, l_255, l_412, l_999, l_1000, l_16000, l_1000000, i_add, i_mul, i_sub, i_leN, i_ltN, i_eqN, i_nleG, i_nltG, inb_n, cl_nI, chk_q, bnd_q, bd1_q, bd2_q, i_bitQ, i_oneQ, i_woQ, i_or, i_and, i_xor, zb_q0, zb_q1, zb_b, b_0Q, if_true, if_false, reduceCtorEq, if_pos, if_neg, f_m_fallOf_b105, h0, m_has, hsb, htb, h2, z_nI, z_200, z_mul, z_sub]
theorem m_fall_lp (h : MB S μ) {s t : Nat} (hs : s < 2 ^ 31) (ht : t < 2 ^ 31) : ∀ m i n, i + m = S.1 → m < n → f_m_fallOf_b22 n (nI s) (nI t) (zL (smI (fun i => fM S s t i - fH S s t i) i)) (nI i) μ = some (zL (fal S s t), μ) := by
  have hp := h.2.2.2.2.1
  have h0 := h.1
  have h3 := h.2.2.1
  intro m
  induction m with
  | zero =>
    intro i n hi hn
    obtain ⟨n, rfl⟩ : ∃ z, n = z + 1 := ⟨n - 1, by omega⟩
    obtain rfl : i = S.1 := by omega
    simp (disch := omega) only [l_0, l_1, l_2, l_3, l_4, l_5, l_6, l_7, l_8, l_9, l_10, l_14, l_15, l_16, l_20, l_31, l_40, l_48, l_50, l_57, l_60, l_64, l_76, l_80, l_99, l_100, l_127, l_196, l_200, l_201, l_202, l_255, l_412, l_999, l_1000, l_16000, l_1000000, i_add, i_mul, i_sub, i_leN, i_ltN, i_eqN, i_nleG, i_nltG, inb_n, cl_nI, chk_q, bnd_q, bd1_q, bd2_q, i_bitQ, i_oneQ, i_woQ, i_or, i_and, i_xor, zb_q0, zb_q1, zb_b, b_0Q, if_true, if_false, reduceCtorEq, if_pos, if_neg, f_m_fallOf_b22, h0]
    rfl
  | succ m ih =>
    intro i n hi hn
    obtain ⟨n, rfl⟩ : ∃ z, n = z + 1 := ⟨n - 1, by omega⟩
    have := ih (i + 1) n (by omega) (by omega)
    rw [smI] at this
    have ha := allS_le h.2.2.2.2 i
    have hn9 := h.2.2.2.2.2.2.1 i (by omega)
    have hb1 := bN_lt (s.testBit i)
    have hb2 := bN_lt (t.testBit i)
    have tail : ∀ y : Int, f_m_fallOf_b102 (f_m_fallOf_b22 n) (nI s) (nI t) (zL y) (nI i) μ = f_m_fallOf_b22 n (nI s) (nI t) (zL (y - fH S s t i)) (nI (i + 1)) μ := by
      intro y
      have l := m_fall_in h (f_m_fallOf_b22 n) hs ht (i := i) (by omega) y S.1 0 FU (by omega) (by unfold FU; omega)
      have e0 : (y - if s.testBit i then 200 * ((sm (fun o => bN (t.testBit o) * S.2.1 i o) 0 : Nat) : Int) else 0) = y := by
        rw [sm]
        split <;> omega
      rw [e0] at l
      exact l
    have hm := m_isMoved h (i := i) (by omega)
    have hal := m_allOf h (i := i) (by omega)
    have b0 : ∀ c : Bool, (if nI (bN c) = 0 then (0 : Int32) else 1) = nI (bN c) := fun c => by cases c <;> rfl
    rw [f_m_fallOf_b22, h0, if_neg (fun q => absurd ((i_leN (by omega) (by omega)).mp q) (by omega)), m_has hs (by omega), bd2_s, b0, bnd_s, m_has ht (by omega), bd2_s, b0, bnd_s, hm, bd2_s]
    cases hmv : mvd S i with
    | false =>
      rw [if_pos (show nI (bN false) = 0 by decide), tail, ← this]
      have e : fM S s t i = 0 := by unfold fM; rw [hmv]; rfl
      rw [e, Int.zero_sub, ← Int.sub_eq_add_neg]
    | true =>
      rw [if_neg (show ¬ nI (bN true) = 0 by decide), inb_n (by omega) (by omega), chk_t, hal, bd2_s, cl_nI (by omega), h3 i (by omega), i_add, z_nI (by omega), z_nI (by omega), z_nI (by omega), z_2, z_mul, z_mul, z_1, z_add, z_mul, z_add, bnd_s, tail, ← this]
      have e : fM S s t i = ((bN (s.testBit i) + bN (t.testBit i) : Nat) : Int) * (2 * (S.2.2.1 i : Int) * (allS S i : Int) + 1) := by
        unfold fM
        rw [hmv]
        rfl
      rw [← e, Int.add_sub_assoc]
theorem m_fallOf (hW : WF a) (hb : MB (aS a) μ) (h : MDs a μ) {d : Nat} (h1 : 1 ≤ d) (h2 : d ≤ aD a) : f_m_fallOf (nI d) μ = some (zL (fal (aS a) (aZ a d) (aZ a (d - 1))), μ) := by
  have h200 := hW.2.2.2.1.1
  have e1 := h.2.2 d h2
  have e2 := h.2.2 (d - 1) (by omega)
  have l1 := m_fall_lp hb (p2_31 hW.1.1 (hW.2.2.2.1.2 d h2)) (p2_31 hW.1.1 (hW.2.2.2.1.2 (d - 1) (by omega))) (aS a).1 0 FU (by omega) (by have := hW.1.1; unfold FU; omega)
  rw [← l1]
  unfold f_m_fallOf
  rw [inb_n (by omega) (by omega), chk_t, cl_nI (by omega), e1, bnd_s, l_1, i_sub h1, inb_n (by omega) (by omega), chk_t, cl_nI (by omega), e2, bnd_s]
  rfl
theorem m_in1 {n b : Nat} (hn : n < 2 ^ 31) (hb : b < 2 ^ 31) (μ : Mem) : f_m_in (nI n) (nI 1) (nI b) μ = some (nI (bN (decide (1 ≤ n ∧ n ≤ b))), μ) := by
  rw [m_in, b_if]
  have e : decide (nI 1 ≤ nI n ∧ nI n ≤ nI b) = decide (1 ≤ n ∧ n ≤ b) := decide_eq_decide.mpr (by rw [i_leN (by omega) hn, i_leN hn hb])
  rw [e]
theorem op_fall (x : Int32) : OpL N a (f_x_fall x) (f_m_fall x) := by
  intro hW hN
  have h200 := hW.2.2.2.1.1
  rcases i_casesQ x with hx | ⟨d, hd, rfl⟩
  · refine ⟨-1, a, fun μ h => x_same h hN ?_, fun ν h => m_start h fun Q ν1 _ hI _ => m_same hI hN ?_⟩
    · unfold f_x_fall f_x_fall_b16
      rw [if_pos (show x < 1 by rw [i_lt] at hx ⊢; have : (nI 0).toInt = 0 := rfl; have : (1 : Int32).toInt = 1 := rfl; omega)]
    · rw [m_in, if_neg (fun q => absurd q.1 (by rw [i_le]; rw [i_lt] at hx; have : (nI 0).toInt = 0 := rfl; have : (1 : Int32).toInt = 1 := rfl; omega)), bd2_s, if_pos rfl]
  by_cases hc : 1 ≤ d ∧ d ≤ aD a
  · refine ⟨zL (fal (aS a) (aZ a d) (aZ a (d - 1))), a, fun μ h => x_same h hN ?_, fun ν h => m_start h fun Q ν1 _ hI _ => m_same hI hN ?_⟩
    · have e1 := h.2.1.2.1.2.1
      simp (disch := omega) only [l_0, l_1, l_2, l_3, l_4, l_5, l_6, l_7, l_8, l_9, l_10, l_14, l_15, l_16, l_20, l_31, l_40, l_48, l_50, l_57, l_60, l_64, l_76, l_80, l_99, l_100, l_127, l_196, l_200, l_201, l_202, l_255, l_412, l_999, l_1000, l_16000, l_1000000, i_add, i_mul, i_sub, i_leN, i_ltN, i_eqN, i_nleG, i_nltG, inb_n, cl_nI, chk_q, bnd_q, bd1_q, bd2_q, i_bitQ, i_oneQ, i_woQ, i_or, i_and, i_xor, zb_q0, zb_q1, zb_b, b_0Q, if_true, if_false, reduceCtorEq, if_pos, if_neg, f_x_fall, e1, x_fallOf hW h.2.1 hc.1 hc.2]
    · have e1 := hI.2.1.2.1.2.1
      simp (disch := omega) only [l_0, l_1, l_2, l_3, l_4, l_5, l_6, l_7, l_8, l_9, l_10, l_14, l_15, l_16, l_20, l_31, l_40, l_48, l_50, l_57, l_60, l_64, l_76, l_80, l_99, l_100, l_127, l_196, l_200, l_201, l_202, l_255, l_412, l_999, l_1000, l_16000, l_1000000, i_add, i_mul, i_sub, i_leN, i_ltN, i_eqN, i_nleG, i_nltG, inb_n, cl_nI, chk_q, bnd_q, bd1_q, bd2_q, i_bitQ, i_oneQ, i_woQ, i_or, i_and, i_xor, zb_q0, zb_q1, zb_b, b_0Q, if_true, if_false, reduceCtorEq, if_pos, if_neg, e1, m_in1, decide_eq_true hc, m_fallOf hW hI.2.1.1 hI.2.1.2.1 hc.1 hc.2]
  · refine ⟨-1, a, fun μ h => x_same h hN ?_, fun ν h => m_start h fun Q ν1 _ hI _ => m_same hI hN ?_⟩
    · have e1 := h.2.1.2.1.2.1
      unfold f_x_fall f_x_fall_b16
      rw [e1, l_1]
      by_cases q : 1 ≤ d
      · rw [if_neg (fun r => absurd ((i_ltN (by omega) (by omega)).mp r) (by omega)), if_neg (fun r => absurd ((i_leN (by omega) (by omega)).mp r) (by omega))]
      · rw [if_pos ((i_ltN (by omega) (by omega)).mpr (by omega))]
    · have e1 := hI.2.1.2.1.2.1
      simp (disch := omega) only [l_0, l_1, l_2, l_3, l_4, l_5, l_6, l_7, l_8, l_9, l_10, l_14, l_15, l_16, l_20, l_31, l_40, l_48, l_50, l_57, l_60, l_64, l_76, l_80, l_99, l_100, l_127, l_196, l_200, l_201, l_202, l_255, l_412, l_999, l_1000, l_16000, l_1000000, i_add, i_mul, i_sub, i_leN, i_ltN, i_eqN, i_nleG, i_nltG, inb_n, cl_nI, chk_q, bnd_q, bd1_q, bd2_q, i_bitQ, i_oneQ, i_woQ, i_or, i_and, i_xor, zb_q0, zb_q1, zb_b, b_0Q, if_true, if_false, reduceCtorEq, if_pos, if_neg, e1, m_in1, decide_eq_false hc]
end OPS
