/-! Plain facts for the functions: their words, small numbers. -/
theorem chk_t {β : Type} (k : Option β) : chk true k = k := rfl
theorem bd2_s {α β : Type} (v : α) (μ : Mem) (f : α → Mem → Option β) : bd2 (some (v, μ)) f = f v μ := rfl
theorem bd1_s {β : Type} (μ : Mem) (f : Mem → Option β) : bd1 (some μ) f = f μ := rfl
theorem bnd_s {α β : Type} (a : α) (f : α → Option β) : bnd a f = f a := rfl
theorem inb_n {k n : Nat} (h : k < n) (hn : n < 2 ^ 31) : inb (nI k) n = true := by
  unfold inb
  exact decide_eq_true (vp_in_nI h hn)
theorem i_nI (n : Nat) : (OfNat.ofNat n : Int32) = nI n := rfl
theorem cl_nI {n : Nat} (h : n < 2 ^ 31) : (nI n).toNatClampNeg = n := nI_clamp h
theorem zb_0 : zb 0 = true := rfl
theorem zb_1 : zb 1 = true := rfl
theorem i_le0 {n : Nat} (h : n < 2 ^ 31) : (0 : Int32) ≤ nI n := nI_pos' h
theorem i_nlt0 {n : Nat} (h : n < 2 ^ 31) : ¬ nI n < 0 := nI_pos h
/-- any int is a small number or below 0 -/
theorem i_cases (x : Int32) : x < 0 ∨ ∃ n : Nat, n < 2 ^ 31 ∧ x = nI n := by
  by_cases h : x < 0
  · exact Or.inl h
  · exact Or.inr (nI_of h)
theorem i_lt (x y : Int32) : x < y ↔ x.toInt < y.toInt := Int32.lt_iff_toInt_lt
theorem i_le (x y : Int32) : x ≤ y ↔ x.toInt ≤ y.toInt := Int32.le_iff_toInt_le
theorem i_tI {n : Nat} (h : n < 2 ^ 31) : (nI n).toInt = (n : Int) := nI_toInt h
