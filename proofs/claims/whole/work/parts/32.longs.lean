/-! Longs as numbers (rows of the kit: laws/BITS.to-paste, the family wb_). -/
theorem wb_tb (n : Nat) : (lN n).toBitVec = BitVec.ofNat 64 n := rfl
theorem wb_inj {a b : Int64} (h : a.toBitVec = b.toBitVec) : a = b := Int64.toBitVec_inj.mp h
theorem wb_tn {n : Nat} (h : n < 2 ^ 64) : (lN n).toBitVec.toNat = n := by rw [wb_tb, BitVec.toNat_ofNat, Nat.mod_eq_of_lt h]
theorem wb_of (x : Int64) : ∃ n, n < 2 ^ 64 ∧ x = lN n := ⟨x.toBitVec.toNat, x.toBitVec.isLt, wb_inj (by rw [wb_tb]; simp)⟩
theorem wb_of32 (x : Int32) : ∃ n, n < 2 ^ 32 ∧ x = nI n := ⟨x.toBitVec.toNat, x.toBitVec.isLt, Int32.toBitVec_inj.mp (by show _ = BitVec.ofNat 32 _; simp)⟩
theorem wb_c : ∀ k, k < 64 → ((nI k).toInt64 &&& 63) = lN k := by decide +kernel
theorem wb_cu : ∀ k, k < 64 → ((nI k).toInt64.toUInt64 &&& Int64.toUInt64 63) = UInt64.ofNat k := by decide +kernel
theorem wb_sm : ∀ k, k < 64 → (BitVec.ofNat 64 k).smod 64 = BitVec.ofNat 64 k := by decide +kernel
theorem wb_pw {a b : Nat} (h : a ≤ b) : 2 ^ b = 2 ^ a * 2 ^ (b - a) := by rw [← Nat.pow_add]; congr 1; omega
theorem wb_lt2 {a b : Nat} (h : a < b) : 2 ^ a < 2 ^ b := Nat.pow_lt_pow_right (by decide) h
theorem wb_mod (n : Nat) : lN n = lN (n % 2 ^ 64) := wb_inj (by rw [wb_tb, wb_tb]; apply BitVec.eq_of_toNat_eq; rw [BitVec.toNat_ofNat, BitVec.toNat_ofNat, Nat.mod_mod])
theorem wb_shr {n k : Nat} (hn : n < 2 ^ 64) (hk : k < 64) : ((lN n).toUInt64 >>> ((nI k).toInt64.toUInt64 &&& Int64.toUInt64 63)).toInt64 = lN (n / 2 ^ k) := by
  rw [wb_cu k hk]
  apply wb_inj
  apply BitVec.eq_of_toNat_eq
  show ((lN n).toUInt64 >>> UInt64.ofNat k).toNat = (BitVec.ofNat 64 _).toNat
  have h1 : (UInt64.ofNat k).toNat = k := by
    show (BitVec.ofNat 64 k).toNat = k
    rw [BitVec.toNat_ofNat, Nat.mod_eq_of_lt (by omega)]
  have h2 : (lN n).toUInt64.toNat = n := wb_tn hn
  rw [UInt64.toNat_shiftRight, h1, h2, Nat.mod_eq_of_lt hk, Nat.shiftRight_eq_div_pow, BitVec.toNat_ofNat, Nat.mod_eq_of_lt (Nat.lt_of_le_of_lt (Nat.div_le_self _ _) hn)]
theorem wb_shl (n : Nat) {k : Nat} (hk : k < 64) : lN n <<< ((nI k).toInt64 &&& 63) = lN (n * 2 ^ k) := by
  rw [wb_c k hk]
  apply wb_inj
  rw [Int64.toBitVec_shiftLeft, wb_tb, wb_tb, wb_tb, wb_sm k hk]
  apply BitVec.eq_of_toNat_eq
  rw [BitVec.shiftLeft_eq', BitVec.toNat_shiftLeft, BitVec.toNat_ofNat, BitVec.toNat_ofNat, BitVec.toNat_ofNat, Nat.mod_eq_of_lt (show k < 2 ^ 64 by omega), Nat.shiftLeft_eq, Nat.mul_mod, Nat.mod_mod, ← Nat.mul_mod]
theorem wb_and {a b : Nat} (ha : a < 2 ^ 64) (hb : b < 2 ^ 64) : lN a &&& lN b = lN (a &&& b) := by
  apply wb_inj
  rw [Int64.toBitVec_and, wb_tb, wb_tb, wb_tb]
  apply BitVec.eq_of_toNat_eq
  rw [BitVec.toNat_and, BitVec.toNat_ofNat, BitVec.toNat_ofNat, BitVec.toNat_ofNat, Nat.mod_eq_of_lt ha, Nat.mod_eq_of_lt hb, Nat.mod_eq_of_lt (Nat.and_lt_two_pow _ hb)]
theorem wb_or {a b : Nat} (ha : a < 2 ^ 64) (hb : b < 2 ^ 64) : lN a ||| lN b = lN (a ||| b) := by
  apply wb_inj
  rw [Int64.toBitVec_or, wb_tb, wb_tb, wb_tb]
  apply BitVec.eq_of_toNat_eq
  rw [BitVec.toNat_or, BitVec.toNat_ofNat, BitVec.toNat_ofNat, BitVec.toNat_ofNat, Nat.mod_eq_of_lt ha, Nat.mod_eq_of_lt hb, Nat.mod_eq_of_lt (Nat.or_lt_two_pow ha hb)]
theorem wb_mask {n k : Nat} (hn : n < 2 ^ 64) (hk : k < 64) : lN n &&& lN (2 ^ k - 1) = lN (n % 2 ^ k) := by
  rw [wb_and hn (by have := wb_lt2 hk; omega), Nat.and_two_pow_sub_one_eq_mod]
theorem wb_a1 {n : Nat} (hn : n < 2 ^ 64) : lN n &&& 1 = lN (n % 2) := wb_mask (k := 1) hn (by decide)
theorem wb_bit {n k : Nat} (hn : n < 2 ^ 64) (hk : k < 64) : ((lN n).toUInt64 >>> ((nI k).toInt64.toUInt64 &&& Int64.toUInt64 63)).toInt64 &&& 1 = lN (n / 2 ^ k % 2) := by
  rw [wb_shr hn hk, wb_a1 (Nat.lt_of_le_of_lt (Nat.div_le_self _ _) hn)]
theorem wb_xor {q k : Nat} (hk : k < 63) (h : 2 ^ k ≤ q) (h2 : q < 2 ^ (k + 1)) : lN q ^^^ lN (2 ^ k) = lN (q - 2 ^ k) := by
  obtain ⟨r, rfl⟩ : ∃ r, q = 2 ^ k + r := ⟨q - 2 ^ k, by omega⟩
  have hr : r < 2 ^ k := by rw [Nat.pow_succ] at h2; omega
  have hx : (2 ^ k + r) ^^^ 2 ^ k = r := by
    apply Nat.eq_of_testBit_eq
    intro i
    rw [Nat.testBit_xor, Nat.testBit_two_pow]
    rcases Nat.lt_trichotomy i k with h | h | h
    · rw [Nat.testBit_two_pow_add_gt h]
      simp [show ¬ k = i by omega]
    · subst h
      rw [Nat.testBit_two_pow_add_eq]
      simp
    · have a1 : 2 ^ (k + 1) ≤ 2 ^ i := Nat.pow_le_pow_right (by decide) h
      rw [Nat.testBit_lt_two_pow (show 2 ^ k + r < 2 ^ i by omega), Nat.testBit_lt_two_pow (show r < 2 ^ i by omega)]
      simp [show ¬ k = i by omega]
  have b1 := wb_lt2 (show k + 1 < 64 by omega)
  have b2 := wb_lt2 (show k < 64 by omega)
  apply wb_inj
  rw [Int64.toBitVec_xor, wb_tb, wb_tb, wb_tb]
  apply BitVec.eq_of_toNat_eq
  rw [BitVec.toNat_xor, BitVec.toNat_ofNat, BitVec.toNat_ofNat, BitVec.toNat_ofNat, Nat.mod_eq_of_lt (by omega : 2 ^ k + r < 2 ^ 64), Nat.mod_eq_of_lt b2, hx, Nat.add_sub_cancel_left, Nat.mod_eq_of_lt (by omega)]
/-! ===== lN: masks, 'or' of parts that don't overlap is a sum ===== -/
theorem L_wo (a b : Nat) : lN b &&& (lN a ^^^ (-1)) = lN (wo b a) := by
  apply Int64.toBitVec_inj.1
  show BitVec.ofNat 64 b &&& (BitVec.ofNat 64 a ^^^ BitVec.allOnes 64) = BitVec.ofNat 64 (wo b a)
  apply BitVec.eq_of_getLsbD_eq
  intro i hi
  rw [BitVec.getLsbD_and, BitVec.getLsbD_xor, BitVec.getLsbD_ofNat, BitVec.getLsbD_ofNat, BitVec.getLsbD_allOnes, BitVec.getLsbD_ofNat, wo_tb, decide_eq_true hi]
  simp
theorem L_or (a b : Nat) : lN a ||| lN b = lN (a ||| b) := by
  apply Int64.toBitVec_inj.1
  show BitVec.ofNat 64 a ||| BitVec.ofNat 64 b = BitVec.ofNat 64 (a ||| b)
  apply BitVec.eq_of_getLsbD_eq
  intro i hi
  simp [hi]
theorem L_and (a b : Nat) : lN a &&& lN b = lN (a &&& b) := by
  apply Int64.toBitVec_inj.1
  show BitVec.ofNat 64 a &&& BitVec.ofNat 64 b = BitVec.ofNat 64 (a &&& b)
  apply BitVec.eq_of_getLsbD_eq
  intro i hi
  simp [hi]
/-- eight bits a lane -/
def ln (f : Nat → Nat) (k : Nat) : Nat := sm (fun i => f i * 256 ^ i) k
theorem ln_lt {f : Nat → Nat} : ∀ k, (∀ i, i < k → f i < 256) → ln f k < 256 ^ k
  | 0, _ => by simp [ln, sm]
  | k + 1, h => by
    have h1 := ln_lt k (fun i hi => h i (by omega))
    have h2 := h k (by omega)
    unfold ln at h1 ⊢
    rw [sm, Nat.pow_succ]
    have : f k * 256 ^ k ≤ 255 * 256 ^ k := Nat.mul_le_mul_right _ (by omega)
    omega
theorem ln_tb {f : Nat → Nat} {r : Nat} (hr : r < 8) : ∀ k i, (∀ i, i < k → f i < 256) → (ln f k).testBit (8 * i + r) = (decide (i < k) && (f i).testBit r)
  | 0, i, _ => by simp [ln, sm]
  | k + 1, i, h => by
    have h1 := ln_tb (f := f) hr k i (fun i hi => h i (by omega))
    have h0 := ln_lt k (fun i hi => h i (by omega))
    have h2 := h k (by omega)
    have e : ln f (k + 1) = 2 ^ (8 * k) * f k + ln f k := by
      show ln f k + f k * 256 ^ k = _
      rw [Nat.mul_comm (f k), show (256 : Nat) = 2 ^ 8 from rfl, ← Nat.pow_mul]
      omega
    have h3 : ln f k < 2 ^ (8 * k) := by
      rw [show (256 : Nat) = 2 ^ 8 from rfl, ← Nat.pow_mul] at h0
      exact h0
    rw [e, Nat.testBit_two_pow_mul_add _ h3]
    by_cases hi : i < k
    · rw [if_pos (by omega), h1]
      simp [hi]
      omega
    · rw [if_neg (by omega)]
      by_cases he : i = k
      · subst he
        rw [show 8 * i + r - 8 * i = r by omega]
        simp
      · have : (f k).testBit (8 * i + r - 8 * k) = false := tb_lt (p := 8) h2 (by omega)
        rw [this]
        have : ¬ i < k + 1 := by omega
        simp [this]
theorem ln_congr {f g : Nat → Nat} (k : Nat) (h : ∀ i, i < k → f i = g i) : ln f k = ln g k := sm_congr k (fun i hi => by rw [h i hi])
theorem ln_add (f g : Nat → Nat) : ∀ k, ln f k + ln g k = ln (fun i => f i + g i) k
  | 0 => rfl
  | k + 1 => by
    have h := ln_add f g k
    have e : ln (fun i => f i + g i) (k + 1) = ln (fun i => f i + g i) k + (f k + g k) * 256 ^ k := rfl
    have e1 : ln f (k + 1) = ln f k + f k * 256 ^ k := rfl
    have e2 : ln g (k + 1) = ln g k + g k * 256 ^ k := rfl
    rw [e, e1, e2, Nat.add_mul]
    omega
/-- one lane more by v -/
theorem ln_up {f g : Nat → Nat} {i v : Nat} : ∀ k, i < k → g i = f i + v → (∀ j, j ≠ i → g j = f j) → ln g k = ln f k + v * 256 ^ i
  | 0, h, _, _ => absurd h (by omega)
  | k + 1, h, h1, h2 => by
    by_cases e : i = k
    · subst e
      have : ln g i = ln f i := ln_congr i (fun j hj => h2 j (by omega))
      unfold ln at this ⊢
      rw [sm, sm, this, h1, Nat.add_mul]
      omega
    · have := ln_up k (by omega) h1 h2
      unfold ln at this ⊢
      rw [sm, sm, this, h2 k (fun z => e z.symm)]
      omega
/-- one lane put anew -/
theorem ln_set {f g : Nat → Nat} {i : Nat} (k : Nat) (hi : i < k) (hf : ∀ j, j < k → f j < 256) (hg : ∀ j, j < k → g j < 256) (h2 : ∀ j, j ≠ i → g j = f j) : wo (ln f k) (255 * 2 ^ (8 * i)) ||| g i * 2 ^ (8 * i) = ln g k := by
  apply nat_ext
  intro q
  have hr : q % 8 < 8 := Nat.mod_lt _ (by omega)
  have eq : q = 8 * (q / 8) + q % 8 := by omega
  have h255 : ∀ r, (255 * 2 ^ (8 * i)).testBit (8 * (q / 8) + r) = (decide (8 * i ≤ 8 * (q / 8) + r) && (255 : Nat).testBit (8 * (q / 8) + r - 8 * i)) := fun r => by
    rw [Nat.testBit_mul_two_pow]
  rw [eq, Nat.testBit_or, wo_tb, ln_tb hr k _ hf, ln_tb hr k _ hg, h255, Nat.testBit_mul_two_pow]
  by_cases e : q / 8 = i
  · subst e
    have h8 : (255 : Nat).testBit (q % 8) = true := by
      have : ∀ r, r < 8 → (255 : Nat).testBit r = true := by decide
      exact this _ hr
    rw [show 8 * (q / 8) + q % 8 - 8 * (q / 8) = q % 8 by omega, h8]
    simp [hi]
  · rw [h2 _ e]
    have hz : ∀ n : Nat, n < 256 → (8 * i ≤ 8 * (q / 8) + q % 8) → n.testBit (8 * (q / 8) + q % 8 - 8 * i) = false := fun n hn h => tb_lt (p := 8) hn (by omega)
    by_cases hle : 8 * i ≤ 8 * (q / 8) + q % 8
    · rw [hz 255 (by omega) hle, hz (g i) (hg i hi) hle]
      simp
    · simp [hle]
/-- the highest bits of eight lanes, gathered -/
def spr (b : Nat) : Nat := bs (fun j => decide (j % 8 = 0) && b.testBit (j / 8)) 64
theorem gather_all : ∀ b : Fin 256, (spr b.val * 72624976668147840 % 2 ^ 64) / 2 ^ 56 = b.val := by decide +kernel
theorem spr_mask : ∀ j, j < 64 → (72340172838076673 : Nat).testBit j = decide (j % 8 = 0) := by decide +kernel
theorem highest_ln {f : Nat → Nat} (hf : ∀ i, i < 8 → f i < 256) (μ : Mem) : f_he_highest (lN (ln f 8)) μ = some (nI (bs (fun i => decide (128 ≤ f i)) 8), μ) := by
  have hN : ln f 8 < 2 ^ 64 := ln_lt 8 hf
  have hb := bs_lt (fun i => decide (128 ≤ f i)) 8
  unfold f_he_highest
  rw [l_7, wb_shr hN (by omega), show (72340172838076673 : Int64) = lN 72340172838076673 from rfl, L_and, show (72624976668147840 : Int64) = lN 72624976668147840 from rfl, lN_mul]
  have e : ln f 8 / 2 ^ 7 &&& 72340172838076673 = spr (bs (fun i => decide (128 ≤ f i)) 8) := by
    apply nat_ext
    intro j
    unfold spr
    rw [bs_tb, Nat.testBit_and, Nat.testBit_div_two_pow]
    by_cases hj : j < 64
    · rw [spr_mask j hj, bs_tb]
      by_cases h8 : j % 8 = 0
      · have hlt : j / 8 < 8 := by omega
        have := ln_tb (f := f) (r := 7) (by omega) 8 (j / 8) hf
        rw [show 8 * (j / 8) + 7 = j + 7 by omega] at this
        rw [this]
        have h7 : (f (j / 8)).testBit 7 = decide (128 ≤ f (j / 8)) := by
          have := hf (j / 8) hlt
          rw [tb_div]
          refine decide_eq_decide.mpr ?_
          omega
        rw [h7]
        simp [hj, h8, hlt]
      · simp [h8]
    · have : (72340172838076673 : Nat).testBit j = false := tb_lt (p := 64) (by decide) (by omega)
      rw [this]
      simp [hj]
  rw [e, wb_mod, show (56 : Int32) = nI 56 from rfl, wb_shr (Nat.mod_lt _ (by decide)) (show 56 < 64 by omega)]
  have := gather_all ⟨bs (fun i => decide (128 ≤ f i)) 8, hb⟩
  simp only at this
  rw [this, lN_i]
