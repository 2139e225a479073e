/-! How many bits; ahead. -/
def pcI (x0 : Int32) : Int32 :=
  let v1 := x0 - (((x0.toUInt32 >>> ((1 : Int32).toUInt32 &&& Int32.toUInt32 31)).toInt32) &&& (1431655765 : Int32))
  let v3 := (v1 &&& (858993459 : Int32)) + (((v1.toUInt32 >>> ((2 : Int32).toUInt32 &&& Int32.toUInt32 31)).toInt32) &&& (858993459 : Int32))
  let v5 := (v3 + ((v3.toUInt32 >>> ((4 : Int32).toUInt32 &&& Int32.toUInt32 31)).toInt32)) &&& (252645135 : Int32)
  let v7 := v5 + ((v5.toUInt32 >>> ((8 : Int32).toUInt32 &&& Int32.toUInt32 31)).toInt32)
  let v9 := v7 + ((v7.toUInt32 >>> ((16 : Int32).toUInt32 &&& Int32.toUInt32 31)).toInt32)
  v9 &&& (63 : Int32)
/-- the number of bits below 14 -/
def pcN (s : Nat) : Nat := sm (fun i => bN (s.testBit i)) 14
theorem pcN_le (s : Nat) : pcN s ≤ 14 := by
  have := sm_le (f := fun i => bN (s.testBit i)) (c := 1) 14 (fun i _ => bN_lt _)
  unfold pcN
  omega
theorem lane_and {l h m k : Nat} (hl : l < 256) (hm : m < 256) : (256 * h + l) &&& (256 * k + m) = 256 * (h &&& k) + (l &&& m) := by
  apply nat_ext
  intro j
  have hlm : l &&& m < 2 ^ 8 := and_lt (n := 8) hl
  rw [Nat.testBit_and, show (256 : Nat) = 2 ^ 8 from rfl, Nat.testBit_two_pow_mul_add h (show l < 2 ^ 8 from hl), Nat.testBit_two_pow_mul_add k (show m < 2 ^ 8 from hm), Nat.testBit_two_pow_mul_add (h &&& k) hlm]
  split
  · rw [Nat.testBit_and]
  · rw [Nat.testBit_and]
def a8 (x : Nat) : Nat := x - (x / 2 &&& 85)
def b8 (x : Nat) : Nat := (x &&& 51) + (x / 4 &&& 51)
def c8 (x : Nat) : Nat := (x + x / 16) % 16
theorem l8 : ∀ x, x < 256 → (x / 2 &&& 85) ≤ x ∧ a8 x < 256 ∧ b8 (a8 x) ≤ 68 ∧ b8 (a8 x) % 16 ≤ 4 ∧ c8 (b8 (a8 x)) = sm (fun i => bN (x.testBit i)) 8 := by decide +kernel
theorem k8 : ∀ x, x < 256 → ((x / 2 + 128) &&& 85 = x / 2 &&& 85) := by decide +kernel
theorem k4 : ∀ y, y < 4 → ∀ x, x < 64 → ((x + 64 * y) &&& 51 = x &&& 51) := by decide +kernel
theorem stepA {l h : Nat} (hl : l < 256) (hh : h < 64) : (256 * h + l) - ((256 * h + l) / 2 &&& 1431655765) = 256 * a8 h + a8 l := by
  have e1 : (256 * h + l) / 2 = 256 * (h / 2) + (l / 2 + 128 * (h % 2)) := by omega
  have e2 : (l / 2 + 128 * (h % 2)) &&& 85 = l / 2 &&& 85 := by
    have : h % 2 = 0 ∨ h % 2 = 1 := by omega
    rcases this with e | e
    · rw [e, Nat.mul_zero, Nat.add_zero]
    · rw [e, Nat.mul_one]; exact k8 l hl
  have e3 : h / 2 &&& 5592405 = h / 2 &&& 85 := by
    rw [show (5592405 : Nat) = 256 * 21845 + 85 from rfl]
    have := lane_and (l := h / 2) (h := 0) (m := 85) (k := 21845) (by omega) (by omega)
    rw [Nat.mul_zero, Nat.zero_add, Nat.zero_and, Nat.mul_zero, Nat.zero_add] at this
    exact this
  have q1 := (l8 l hl).1
  have q2 := (l8 h (by omega)).1
  rw [e1, show (1431655765 : Nat) = 256 * 5592405 + 85 from rfl, lane_and (by omega) (by omega), e2, e3]
  unfold a8
  omega
theorem stepB {l h : Nat} (hl : l < 256) (hh : h < 256) : ((256 * h + l) &&& 858993459) + ((256 * h + l) / 4 &&& 858993459) = 256 * b8 h + b8 l := by
  have e0 : ∀ x, x < 256 → x &&& 3355443 = x &&& 51 := by
    intro x hx
    rw [show (3355443 : Nat) = 256 * 13107 + 51 from rfl]
    have := lane_and (l := x) (h := 0) (m := 51) (k := 13107) hx (by omega)
    rw [Nat.mul_zero, Nat.zero_add, Nat.zero_and, Nat.mul_zero, Nat.zero_add] at this
    exact this
  have e1 : (256 * h + l) / 4 = 256 * (h / 4) + (l / 4 + 64 * (h % 4)) := by omega
  rw [e1, show (858993459 : Nat) = 256 * 3355443 + 51 from rfl, lane_and hl (by omega), lane_and (by omega) (by omega), e0 h hh, e0 (h / 4) (by omega), k4 (h % 4) (by omega) (l / 4) (by omega)]
  unfold b8
  omega
theorem m16 (x : Nat) : x &&& 15 = x % 16 := by
  rw [show (15 : Nat) = 2 ^ 4 - 1 from rfl, Nat.and_two_pow_sub_one_eq_mod]
theorem stepC {l h : Nat} (hl : l ≤ 68) (hh : h ≤ 68) (hn : h % 16 ≤ 4) : ((256 * h + l) + (256 * h + l) / 16) &&& 252645135 = 256 * c8 h + c8 l := by
  have e1 : (256 * h + l) + (256 * h + l) / 16 = 256 * (h + h / 16) + (l + l / 16 + 16 * (h % 16)) := by omega
  have e2 : (h + h / 16) &&& 986895 = (h + h / 16) % 16 := by
    rw [show (986895 : Nat) = 256 * 3855 + 15 from rfl]
    have := lane_and (l := h + h / 16) (h := 0) (m := 15) (k := 3855) (by omega) (by omega)
    rw [Nat.mul_zero, Nat.zero_add, Nat.zero_and, Nat.mul_zero, Nat.zero_add] at this
    rw [this, m16]
  rw [e1, show (252645135 : Nat) = 256 * 986895 + 15 from rfl, lane_and (by omega) (by omega), e2, m16]
  unfold c8
  omega
theorem pc_split {l h : Nat} (hl : l < 256) (hh : h < 64) : pcN (256 * h + l) = sm (fun i => bN (l.testBit i)) 8 + sm (fun i => bN (h.testBit i)) 8 := by
  have e : ∀ i, (256 * h + l).testBit i = if i < 8 then l.testBit i else h.testBit (i - 8) := fun i => Nat.testBit_two_pow_mul_add h (show l < 2 ^ 8 from hl) i
  have h6 : h.testBit 6 = false := tb_lt (p := 6) hh (by omega)
  have h7 : h.testBit 7 = false := tb_lt (p := 6) hh (by omega)
  unfold pcN
  simp only [sm, e, h6, h7, show (0 : Nat) < 8 from by decide, show (1 : Nat) < 8 from by decide, show (2 : Nat) < 8 from by decide, show (3 : Nat) < 8 from by decide, show (4 : Nat) < 8 from by decide, show (5 : Nat) < 8 from by decide, show (6 : Nat) < 8 from by decide, show (7 : Nat) < 8 from by decide, show ¬ (8 : Nat) < 8 from by decide, show ¬ (9 : Nat) < 8 from by decide, show ¬ (10 : Nat) < 8 from by decide, show ¬ (11 : Nat) < 8 from by decide, show ¬ (12 : Nat) < 8 from by decide, show ¬ (13 : Nat) < 8 from by decide, if_true, if_false, Nat.reduceSub]
  have : bN false = 0 := rfl
  omega
theorem i_ushr {n k : Nat} (h : n < 2 ^ 31) (hk : k < 32) : ((nI n).toUInt32 >>> ((nI k).toUInt32 &&& Int32.toUInt32 31)).toInt32 = nI (n / 2 ^ k) := by
  have h0 : ∀ k, k < 32 → (((nI k).toUInt32 &&& Int32.toUInt32 31).toBitVec % 32#32).toNat = k := by decide +kernel
  apply Int32.toBitVec_inj.1
  show (nI n).toBitVec >>> (((nI k).toUInt32 &&& Int32.toUInt32 31).toBitVec % 32#32) = (nI (n / 2 ^ k)).toBitVec
  rw [BitVec.ushiftRight_eq', h0 k hk]
  apply BitVec.eq_of_toNat_eq
  rw [BitVec.toNat_ushiftRight]
  show (n % 2 ^ 32) >>> k = (n / 2 ^ k) % 2 ^ 32
  have : n / 2 ^ k ≤ n := Nat.div_le_self _ _
  rw [Nat.mod_eq_of_lt (by omega), Nat.mod_eq_of_lt (by omega), Nat.shiftRight_eq_div_pow]
theorem fin8 {A B : Nat} (hA : A ≤ 8 * 1) (hB : B ≤ 8 * 1) : (256 * B + A + (256 * B + A) / 256 + (256 * B + A + (256 * B + A) / 256) / 2 ^ 16) % 2 ^ 6 = A + B := by
  have d1 : (256 * B + A) / 256 = B := by omega
  have d2 : (256 * B + A + B) / 65536 = 0 := Nat.div_eq_of_lt (by omega)
  rw [d1, show (2 : Nat) ^ 16 = 65536 from rfl, show (2 : Nat) ^ 6 = 64 from rfl, d2]
  have d3 : 256 * B + A + B + 0 = A + B + 64 * (4 * B) := by omega
  rw [d3, Nat.add_mul_mod_self_left]
  exact Nat.mod_eq_of_lt (by omega)
theorem jd_bc {s : Nat} (hs : s < 16384) (μ : Mem) : f_jd_bitCount (nI s) μ = some (nI (pcN s), μ) := by
  obtain ⟨h, l, hl, hh, rfl⟩ : ∃ h l, l < 256 ∧ h < 64 ∧ s = 256 * h + l := ⟨s / 256, s % 256, by omega, by omega, by omega⟩
  obtain ⟨a1, a2, a3, a4, a5⟩ := l8 l hl
  obtain ⟨b1, b2, b3, b4, b5⟩ := l8 h (by omega)
  have sA := stepA hl hh
  have sB := stepB a2 b2
  have sC := stepC a3 b3 b4
  have hc1 := sm_le (f := fun i => bN (l.testBit i)) (c := 1) 8 (fun i _ => bN_lt _)
  have hc2 := sm_le (f := fun i => bN (h.testBit i)) (c := 1) 8 (fun i _ => bN_lt _)
  have hle : (256 * h + l) / 2 &&& 1431655765 ≤ 256 * h + l := Nat.le_trans Nat.and_le_left (by omega)
  unfold f_jd_bitCount
  rw [l_1, i_ushr (by omega) (by omega), Nat.pow_one, show (1431655765 : Int32) = nI 1431655765 from rfl, i_and, i_sub hle, sA, bnd_s]
  rw [show (858993459 : Int32) = nI 858993459 from rfl, i_and, l_2, i_ushr (by omega) (by omega), show 2 ^ 2 = 4 from rfl, i_and, i_add, sB, bnd_s]
  rw [l_4, i_ushr (by omega) (by omega), show 2 ^ 4 = 16 from rfl, i_add, show (252645135 : Int32) = nI 252645135 from rfl, i_and, sC, bnd_s]
  rw [a5, b5, l_8, i_ushr (by omega) (by omega), show 2 ^ 8 = 256 from rfl, i_add, bnd_s, show (16 : Int32) = nI 16 from rfl, i_ushr (by omega) (by omega), i_add, bnd_s, show (63 : Int32) = nI (2 ^ 6 - 1) from rfl, i_and, Nat.and_two_pow_sub_one_eq_mod, pc_split hl hh]
  congr 3
  exact fin8 hc1 hc2
