/-! Bits and small numbers of ints. -/
theorem i_and (a b : Nat) : nI a &&& nI b = nI (a &&& b) := by
  apply Int32.toBitVec_inj.1
  show BitVec.ofNat 32 a &&& BitVec.ofNat 32 b = BitVec.ofNat 32 (a &&& b)
  apply BitVec.eq_of_getLsbD_eq
  intro i hi
  simp [hi]
theorem i_or (a b : Nat) : nI a ||| nI b = nI (a ||| b) := by
  apply Int32.toBitVec_inj.1
  show BitVec.ofNat 32 a ||| BitVec.ofNat 32 b = BitVec.ofNat 32 (a ||| b)
  apply BitVec.eq_of_getLsbD_eq
  intro i hi
  simp [hi]
theorem i_xor (a b : Nat) : nI a ^^^ nI b = nI (a ^^^ b) := by
  apply Int32.toBitVec_inj.1
  show BitVec.ofNat 32 a ^^^ BitVec.ofNat 32 b = BitVec.ofNat 32 (a ^^^ b)
  apply BitVec.eq_of_getLsbD_eq
  intro i hi
  simp [hi]
theorem i_sh : ∀ i, i < 32 → ((nI i &&& 31).toBitVec.smod 32).toNat = i := by decide +kernel
theorem i_shr {n i : Nat} (h : n < 2 ^ 31) (hi : i < 32) : nI n >>> (nI i &&& 31) = nI (n / 2 ^ i) := pk_shrN h _ i (i_sh i hi)
theorem i_shl {n i : Nat} (hi : i < 32) (h : n * 2 ^ i < 2 ^ 32) : nI n <<< (nI i &&& 31) = nI (n * 2 ^ i) := pk_shlN _ i (i_sh i hi) h
theorem p2_lt {i : Nat} (hi : i < 31) : 2 ^ i < 2 ^ 31 := Nat.pow_lt_pow_right (by omega) hi
theorem i_one {i : Nat} (hi : i < 31) : (1 : Int32) <<< (nI i &&& 31) = nI (2 ^ i) := by
  have := i_shl (n := 1) (i := i) (by omega) (by have := p2_lt hi; omega)
  rw [Nat.one_mul] at this
  exact this
theorem tb_div (n i : Nat) : n.testBit i = decide (n / 2 ^ i % 2 = 1) := by
  rw [Nat.testBit_eq_decide_div_mod_eq]
/-- a bit as a number -/
def bN (b : Bool) : Nat := if b then 1 else 0
theorem bN_lt (b : Bool) : bN b ≤ 1 := by cases b <;> simp [bN]
theorem div_bN (n i : Nat) : n / 2 ^ i % 2 = bN (n.testBit i) := by
  rw [tb_div]
  unfold bN
  have := Nat.mod_lt (n / 2 ^ i) (show 0 < 2 by omega)
  by_cases h : n / 2 ^ i % 2 = 1
  · simp [h]
  · have : n / 2 ^ i % 2 = 0 := by omega
    simp [this]
theorem i_bit {n i : Nat} (h : n < 2 ^ 31) (hi : i < 32) : (nI n >>> (nI i &&& 31)) &&& 1 = nI (bN (n.testBit i)) := by
  rw [i_shr h hi, show (1 : Int32) = nI 1 from rfl, i_and, Nat.and_one_is_mod, div_bN]
theorem i_bit0 {n i : Nat} (h : n < 2 ^ 31) (hi : i < 32) : ((nI n >>> (nI i &&& 31)) &&& 1 = 0) ↔ n.testBit i = false := by
  rw [i_bit h hi]
  cases n.testBit i <;> simp [bN] <;> decide
theorem i_bit1 {n i : Nat} (h : n < 2 ^ 31) (hi : i < 32) : ((nI n >>> (nI i &&& 31)) &&& 1 = 1) ↔ n.testBit i = true := by
  rw [i_bit h hi]
  cases n.testBit i <;> simp [bN] <;> decide
theorem nI_inj {a b : Nat} (ha : a < 2 ^ 31) (hb : b < 2 ^ 31) (h : nI a = nI b) : a = b := (nI_eq ha hb).mp h
theorem or_lt {a b n : Nat} (ha : a < 2 ^ n) (hb : b < 2 ^ n) : a ||| b < 2 ^ n := Nat.or_lt_two_pow ha hb
theorem and_lt {a b n : Nat} (ha : a < 2 ^ n) : a &&& b < 2 ^ n := Nat.lt_of_le_of_lt Nat.and_le_left ha
theorem xor_lt {a b n : Nat} (ha : a < 2 ^ n) (hb : b < 2 ^ n) : a ^^^ b < 2 ^ n := Nat.xor_lt_two_pow ha hb
theorem i_add (a b : Nat) : nI a + nI b = nI (a + b) := nI_add a b
theorem i_mul (a b : Nat) : nI a * nI b = nI (a * b) := pk_mul a b
theorem i_sub {a b : Nat} (h : b ≤ a) : nI a - nI b = nI (a - b) := pk_sub h
theorem i_ltN {a b : Nat} (ha : a < 2 ^ 31) (hb : b < 2 ^ 31) : nI a < nI b ↔ a < b := nI_ltI ha hb
theorem i_leN {a b : Nat} (ha : a < 2 ^ 31) (hb : b < 2 ^ 31) : nI a ≤ nI b ↔ a ≤ b := nI_leI ha hb
theorem i_eqN {a b : Nat} (ha : a < 2 ^ 31) (hb : b < 2 ^ 31) : nI a = nI b ↔ a = b := nI_eq ha hb
/-- b without the bits of a -/
def wo (b a : Nat) : Nat := b ^^^ (b &&& a)
theorem wo_tb (b a i : Nat) : (wo b a).testBit i = (b.testBit i && !a.testBit i) := by
  unfold wo
  rw [Nat.testBit_xor, Nat.testBit_and]
  cases b.testBit i <;> cases a.testBit i <;> rfl
theorem i_wo (a b : Nat) : nI b &&& (nI a ^^^ (-1)) = nI (wo b a) := by
  apply Int32.toBitVec_inj.1
  show BitVec.ofNat 32 b &&& (BitVec.ofNat 32 a ^^^ BitVec.allOnes 32) = BitVec.ofNat 32 (wo b a)
  apply BitVec.eq_of_getLsbD_eq
  intro i hi
  rw [BitVec.getLsbD_and, BitVec.getLsbD_xor, BitVec.getLsbD_ofNat, BitVec.getLsbD_ofNat, BitVec.getLsbD_allOnes, BitVec.getLsbD_ofNat, wo_tb, decide_eq_true hi]
  simp
theorem wo_lt {b a n : Nat} (hb : b < 2 ^ n) : wo b a < 2 ^ n := by
  apply Nat.lt_pow_two_of_testBit
  intro i hi
  rw [wo_tb, Nat.testBit_lt_two_pow (Nat.lt_of_lt_of_le hb (Nat.pow_le_pow_right (by omega) hi))]
  rfl
theorem tb_p2 (i j : Nat) : (2 ^ i).testBit j = decide (i = j) := by
  rw [Nat.testBit_two_pow]
theorem tb_lt {n i p : Nat} (h : n < 2 ^ p) (hi : p ≤ i) : n.testBit i = false := Nat.testBit_lt_two_pow (Nat.lt_of_lt_of_le h (Nat.pow_le_pow_right (by omega) hi))
theorem p2_14 {p : Nat} (hp : p ≤ 14) : 2 ^ p ≤ 16384 := Nat.pow_le_pow_right (by omega) hp
theorem p2_31 {p n : Nat} (hp : p ≤ 14) (h : n < 2 ^ p) : n < 2 ^ 31 := Nat.lt_of_lt_of_le h (Nat.le_trans (p2_14 hp) (by decide))
/-- everybody -/
theorem i_ev {p : Nat} (hp : p ≤ 14) : ((1 : Int32) <<< (nI p &&& 31)) - 1 = nI (2 ^ p - 1) := by
  rw [i_one (by omega), show (1 : Int32) = nI 1 from rfl, i_sub (Nat.one_le_two_pow)]
theorem tb_ev (p i : Nat) : (2 ^ p - 1).testBit i = decide (i < p) := Nat.testBit_two_pow_sub_one p i
theorem ev_lt (p : Nat) : 2 ^ p - 1 < 2 ^ p := by have := Nat.one_le_two_pow (n := p); omega
/-- a sum -/
def sm (f : Nat → Nat) : Nat → Nat
  | 0 => 0
  | n + 1 => sm f n + f n
theorem sm_le {f : Nat → Nat} {c : Nat} : ∀ n, (∀ i, i < n → f i ≤ c) → sm f n ≤ n * c
  | 0, _ => by simp [sm]
  | n + 1, h => by
    have := sm_le n (fun i hi => h i (by omega))
    have := h n (by omega)
    rw [sm, Nat.add_mul]
    omega
theorem sm_congr {f g : Nat → Nat} : ∀ n, (∀ i, i < n → f i = g i) → sm f n = sm g n
  | 0, _ => rfl
  | n + 1, h => by rw [sm, sm, sm_congr n (fun i hi => h i (by omega)), h n (by omega)]
theorem sm_mono {f g : Nat → Nat} : ∀ n, (∀ i, i < n → f i ≤ g i) → sm f n ≤ sm g n
  | 0, _ => Nat.le_refl _
  | n + 1, h => by
    have := sm_mono n (fun i hi => h i (by omega))
    have := h n (by omega)
    rw [sm, sm]
    omega
/-- the number with the bits b i, i < n -/
def bs (b : Nat → Bool) : Nat → Nat
  | 0 => 0
  | n + 1 => bs b n ||| (if b n then 2 ^ n else 0)
theorem bs_tb (b : Nat → Bool) (n i : Nat) : (bs b n).testBit i = (decide (i < n) && b i) := by
  induction n with
  | zero => simp [bs]
  | succ n ih =>
    rw [bs, Nat.testBit_or, ih]
    by_cases h : i = n
    · subst h
      cases hb : b i <;> simp [Nat.testBit_two_pow_self]
    · have : (if b n then 2 ^ n else 0).testBit i = false := by
        split
        · rw [tb_p2]; simp; omega
        · simp
      rw [this]
      have : decide (i < n + 1) = decide (i < n) := by
        by_cases h2 : i < n
        · simp [h2]; omega
        · simp [h2]; omega
      rw [this]
      simp
theorem bs_lt (b : Nat → Bool) (n : Nat) : bs b n < 2 ^ n := by
  apply Nat.lt_pow_two_of_testBit
  intro i hi
  rw [bs_tb]
  simp
  omega
theorem nat_ext {a b : Nat} (h : ∀ i, a.testBit i = b.testBit i) : a = b := Nat.eq_of_testBit_eq h
theorem l_0 : (0 : Int32) = nI 0 := rfl
theorem l_1 : (1 : Int32) = nI 1 := rfl
theorem l_2 : (2 : Int32) = nI 2 := rfl
theorem l_3 : (3 : Int32) = nI 3 := rfl
theorem l_4 : (4 : Int32) = nI 4 := rfl
theorem l_5 : (5 : Int32) = nI 5 := rfl
theorem l_6 : (6 : Int32) = nI 6 := rfl
theorem l_7 : (7 : Int32) = nI 7 := rfl
theorem l_8 : (8 : Int32) = nI 8 := rfl
theorem l_9 : (9 : Int32) = nI 9 := rfl
theorem l_10 : (10 : Int32) = nI 10 := rfl
theorem l_11 : (11 : Int32) = nI 11 := rfl
theorem l_12 : (12 : Int32) = nI 12 := rfl
theorem l_13 : (13 : Int32) = nI 13 := rfl
theorem l_14 : (14 : Int32) = nI 14 := rfl
theorem l_15 : (15 : Int32) = nI 15 := rfl
theorem l_16 : (16 : Int32) = nI 16 := rfl
theorem l_20 : (20 : Int32) = nI 20 := rfl
theorem l_30 : (30 : Int32) = nI 30 := rfl
theorem l_31 : (31 : Int32) = nI 31 := rfl
theorem l_40 : (40 : Int32) = nI 40 := rfl
theorem l_48 : (48 : Int32) = nI 48 := rfl
theorem l_50 : (50 : Int32) = nI 50 := rfl
theorem l_57 : (57 : Int32) = nI 57 := rfl
theorem l_60 : (60 : Int32) = nI 60 := rfl
theorem l_64 : (64 : Int32) = nI 64 := rfl
theorem l_76 : (76 : Int32) = nI 76 := rfl
theorem l_77 : (77 : Int32) = nI 77 := rfl
theorem l_80 : (80 : Int32) = nI 80 := rfl
theorem l_99 : (99 : Int32) = nI 99 := rfl
theorem l_100 : (100 : Int32) = nI 100 := rfl
theorem l_126 : (126 : Int32) = nI 126 := rfl
theorem l_127 : (127 : Int32) = nI 127 := rfl
theorem l_196 : (196 : Int32) = nI 196 := rfl
theorem l_200 : (200 : Int32) = nI 200 := rfl
theorem l_201 : (201 : Int32) = nI 201 := rfl
theorem l_255 : (255 : Int32) = nI 255 := rfl
theorem l_412 : (412 : Int32) = nI 412 := rfl
theorem l_999 : (999 : Int32) = nI 999 := rfl
theorem l_1000 : (1000 : Int32) = nI 1000 := rfl
theorem l_2000 : (2000 : Int32) = nI 2000 := rfl
theorem l_16000 : (16000 : Int32) = nI 16000 := rfl
theorem l_16383 : (16383 : Int32) = nI 16383 := rfl
theorem l_16384 : (16384 : Int32) = nI 16384 := rfl
theorem l_32767 : (32767 : Int32) = nI 32767 := rfl
theorem l_65535 : (65535 : Int32) = nI 65535 := rfl
theorem l_1000000 : (1000000 : Int32) = nI 1000000 := rfl
theorem ite_t {α : Type} {c : Prop} [Decidable c] {a b : α} (h : c) : (if c then a else b) = a := if_pos h
theorem ite_f {α : Type} {c : Prop} [Decidable c] {a b : α} (h : ¬ c) : (if c then a else b) = b := if_neg h
theorem zb_b (b : Bool) : zb (nI (bN b)) = true := by cases b <;> rfl
theorem b_0 (b : Bool) : nI (bN b) = 0 ↔ b = false := by cases b <;> decide
theorem b_1 (b : Bool) : nI (bN b) = 1 ↔ b = true := by cases b <;> decide
theorem b_t : nI (bN true) = 1 := rfl
theorem b_f : nI (bN false) = 0 := rfl
theorem b_if (c : Prop) [Decidable c] : (if c then (1 : Int32) else 0) = nI (bN (decide c)) := by by_cases h : c <;> simp [h, bN] <;> rfl
theorem b_ifn (c : Prop) [Decidable c] : (if c then (0 : Int32) else 1) = nI (bN (decide (¬ c))) := by by_cases h : c <;> simp [h, bN] <;> rfl
