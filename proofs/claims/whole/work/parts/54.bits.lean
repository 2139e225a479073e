/-! How many bits; ahead. -/
def pcI (x0 : Int32) : Int32 :=
  let v1 := x0 - (((x0.toUInt32 >>> ((1 : Int32).toUInt32 &&& Int32.toUInt32 31)).toInt32) &&& (1431655765 : Int32))
  let v3 := (v1 &&& (858993459 : Int32)) + (((v1.toUInt32 >>> ((2 : Int32).toUInt32 &&& Int32.toUInt32 31)).toInt32) &&& (858993459 : Int32))
  let v5 := (v3 + ((v3.toUInt32 >>> ((4 : Int32).toUInt32 &&& Int32.toUInt32 31)).toInt32)) &&& (252645135 : Int32)
  let v7 := v5 + ((v5.toUInt32 >>> ((8 : Int32).toUInt32 &&& Int32.toUInt32 31)).toInt32)
  let v9 := v7 + ((v7.toUInt32 >>> ((16 : Int32).toUInt32 &&& Int32.toUInt32 31)).toInt32)
  v9 &&& (63 : Int32)
/-- the number of bits below 14 -/
def pcN (s : Nat) : Nat := sm (fun i => bN (s.testBit i)) 14
theorem pcN_le (s : Nat) : pcN s ≤ 14 := by
  have := sm_le (f := fun i => bN (s.testBit i)) (c := 1) 14 (fun i _ => bN_lt _)
  unfold pcN
  omega
theorem lane_and {l h m k : Nat} (hl : l < 256) (hm : m < 256) : (256 * h + l) &&& (256 * k + m) = 256 * (h &&& k) + (l &&& m) := by
  apply nat_ext
  intro j
  have hlm : l &&& m < 2 ^ 8 := and_lt (n := 8) hl
  rw [Nat.testBit_and, show (256 : Nat) = 2 ^ 8 from rfl, Nat.testBit_two_pow_mul_add h (show l < 2 ^ 8 from hl), Nat.testBit_two_pow_mul_add k (show m < 2 ^ 8 from hm), Nat.testBit_two_pow_mul_add (h &&& k) hlm]
  split
  · rw [Nat.testBit_and]
  · rw [Nat.testBit_and]
def a8 (x : Nat) : Nat := x - (x / 2 &&& 85)
def b8 (x : Nat) : Nat := (x &&& 51) + (x / 4 &&& 51)
def c8 (x : Nat) : Nat := (x + x / 16) % 16
theorem l8 : ∀ x, x < 256 → (x / 2 &&& 85) ≤ x ∧ a8 x < 256 ∧ b8 (a8 x) ≤ 68 ∧ b8 (a8 x) % 16 ≤ 4 ∧ c8 (b8 (a8 x)) = sm (fun i => bN (x.testBit i)) 8 := by decide +kernel
theorem k8 : ∀ x, x < 256 → ((x / 2 + 128) &&& 85 = x / 2 &&& 85) := by decide +kernel
theorem k4 : ∀ y, y < 4 → ∀ x, x < 64 → ((x + 64 * y) &&& 51 = x &&& 51) := by decide +kernel
